/** Promises 29 to 33, and 34 as far as kinds go. */
public final class AskedTest {
    private static final Check CHECK = new Check("AskedTest");
    private static final int KIND = -1000013;

    public static void main(String[] args) {
        kinds();
        asks();
        traces();
        counts();
        CHECK.end();
    }

    /** Which kinds (bits) one of a sort is, beside the kind he is told as. */
    private static void kind(String sort, int told, int kinds) {
        WakeLet x = Check.open("l0,0;w0,0;o1,0,0;" + sort + "1,0,0;");
        CHECK.due("29: " + sort, x.kind(1), told);
        for (int k = 0; k <= 5; k++) {
            boolean is = (kinds >> k & 1) == 1;
            CHECK.due("30: " + sort + " as " + k, x.as(1, k), is ? 1 : KIND);
            CHECK.due("34: " + sort + " as " + k, x.status(), is ? 0 : 3);
        }
    }

    private static void kinds() {
        kind("o", 1, 0b000011);
        kind("c", 2, 0b000111);
        kind("m", 3, 0b001011);
        kind("g", 4, 0b010001);
        kind("n", 5, 0b110001);
        WakeLet x = Check.open("l0,0;w0,0;o1,0,0;");
        CHECK.due("29: waker 1", x.kind(1), WakeLet.BAD);
        CHECK.due("29: waker -1", x.kind(-1), WakeLet.BAD);
        CHECK.due("30: no mother", x.as(0, 3), KIND);
        CHECK.due("30: waker 1", x.as(1, 0), WakeLet.BAD);
        CHECK.due("30: waker -1", x.as(-1, 0), WakeLet.BAD);
        CHECK.due("30: kind 6", x.as(0, 6), WakeLet.BAD);
        CHECK.due("30: kind -1", x.as(0, -1), WakeLet.BAD);
        CHECK.due("34: bad leaves it", x.status(), 3);
        x.row(0, 0, 1);
        CHECK.due("34: then a row", x.status(), 0);
    }

    private static void ask(WakeLet x, int waker, int what, int answer, int... trace) {
        String call = "31: ask(" + waker + ", " + what + ")";
        CHECK.due(call, x.ask(waker, what), answer);
        for (int i = 0; i < trace.length; i++) {
            CHECK.due("32: " + call + " trace " + i, x.trace(i), trace[i]);
        }
        CHECK.due("32: " + call + " no more", x.trace(trace.length), WakeLet.NONE);
    }

    private static void asks() {
        WakeLet x = Check.open("l0,6;w0,0;g3,0,0;o4,0,0;c5,0,0;m6,0,0;");
        x.nights(2);
        ask(x, 0, 0, 3 - 100, 13, 10);
        ask(x, 0, 1, 0 - (3 - 100), 23, 20, 13, 10);
        ask(x, 1, 0, 4 + 1 + 8, 11, 10, 21, 20);
        ask(x, 1, 1, 1 + 8, 21, 20);
        ask(x, 2, 0, -(5 + 2 * (2 + 10)), 12, 11, 10, 24, 21, 20);
        ask(x, 2, 1, 2 * (2 + 10), 24, 21, 20);
        ask(x, 3, 0, 6 + (3 + 24 - 1000), 11, 10, 22, 21, 20);
        ask(x, 3, 1, 3 + 24 - 1000, 22, 21, 20);
        Check.read(x, "l0,6;w0,0;o9,0,0;n7,0,0;");
        x.nights(2);
        ask(x, 1, 0, 2 * (7 - 100), 14, 13, 10);
        ask(x, 1, 1, 1 - 2 * (7 - 100), 23, 20, 14, 13, 10);
    }

    private static void traces() {
        WakeLet x = Check.open("l0,6;w0,0;g3,0,0;");
        CHECK.due("32: none yet", x.trace(0), WakeLet.NONE);
        x.ask(0, 1);
        CHECK.due("31: waker 1", x.ask(1, 0), WakeLet.BAD);
        CHECK.due("31: waker -1", x.ask(-1, 0), WakeLet.BAD);
        CHECK.due("31: what 2", x.ask(0, 2), WakeLet.BAD);
        CHECK.due("31: what -1", x.ask(0, -1), WakeLet.BAD);
        CHECK.due("32: what is refused leaves it", x.trace(3), 10);
        CHECK.due("32: -1", x.trace(-1), WakeLet.NONE);
        CHECK.due("32: least", x.trace(Integer.MIN_VALUE), WakeLet.NONE);
        CHECK.due("32: 16", x.trace(16), WakeLet.NONE);
        CHECK.due("32: most", x.trace(Integer.MAX_VALUE), WakeLet.NONE);
        x.ask(0, 0);
        CHECK.due("32: empty ahead", x.trace(2), WakeLet.NONE);
    }

    private static void counts() {
        WakeLet x = Check.open("l5,6;w0,0;w9,0;w5,0;o3,0,1;m2,0,0;");
        x.row(3, 0, 1);
        x.feed('l');
        x.feed('l');
        x.nights(1);
        x.grow(0, 2);
        int[] due = {1, 3, 2, 1, 1, 7, 2, 2};
        for (int what = 0; what < due.length; what++) {
            CHECK.due("33: " + what, x.count(what), due[what]);
        }
        x.nights(1);
        CHECK.due("33: rests", x.count(4), 3);
        CHECK.due("33: -1", x.count(-1), WakeLet.BAD);
        CHECK.due("33: 8", x.count(8), WakeLet.BAD);
        CHECK.due("33: most", x.count(Integer.MAX_VALUE), WakeLet.BAD);
    }
}
