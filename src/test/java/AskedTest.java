/** Promises 29 to 32. */
public final class AskedTest extends Sentences {
    private static final String SORTS = "ocmgn";
    /** By sort: which kinds (bits) one is. */
    private static final int[] IS = {0b000011, 0b000111, 0b001011, 0b010001, 0b110001};

    public static void main(String[] args) {
        run(AskedTest.class);
    }

    /** A waker of a sort with the number w, behind others. */
    private static WakeLet hired(char sort, int w, int hours) {
        return open("l0,6;w0,0;" + "g1,0,0;".repeat(w) + sort + hours + ",0,0;");
    }

    private static void ask(WakeLet x, int waker, int what, int answer, int... trace) {
        String call = "ask(" + waker + ", " + what + ")";
        due(call, x.ask(waker, what), answer);
        for (int i = 0; i < 16; i++) {
            due(call + ", trace " + i, x.trace(i), i < trace.length ? trace[i] : NONE);
        }
    }

    // ---- 29: kind

    static void promise29KindsAreAsTold() {
        for (int k = 0; k < 5; k++) {
            for (int w = 0; w < 4; w++) {
                due(SORTS.charAt(k) + " as waker " + w, hired(SORTS.charAt(k), w, 1).kind(w), k + 1);
            }
        }
    }

    static void promise29WakersAreThoseThereAre() {
        WakeLet x = open("l0,0;w0,0;o1,0,0;n1,0,0;");
        due("-1", x.kind(-1), BAD);
        due("0", x.kind(0), 1);
        due("1", x.kind(1), 5);
        due("2", x.kind(2), BAD);
        due("the least", x.kind(MIN), BAD);
        due("the most", x.kind(MAX), BAD);
        due("3 of four", hired('m', 3, 1).kind(3), 3);
        due("4 of four", hired('m', 3, 1).kind(4), BAD);
        due("none there", open("l0,0;w0,0;").kind(0), BAD);
        due("no agency", new WakeLet().kind(0), BAD);
    }

    // ---- 30: as

    static void promise30EachIsOfHisKindsAndNoOther() {
        for (int k = 0; k < 5; k++) {
            WakeLet x = hired(SORTS.charAt(k), 0, 1);
            for (int kind = 0; kind <= 5; kind++) {
                boolean is = (IS[k] >> kind & 1) == 1;
                due(SORTS.charAt(k) + " as " + kind, x.as(0, kind), is ? 0 : KIND);
                due("status", x.status(), is ? 0 : 3);
            }
        }
    }

    static void promise30ItTellsTheWakersNumber() {
        WakeLet x = open("l0,0;w0,0;n1,0,0;n1,0,0;n1,0,0;n1,0,0;");
        for (int w = 0; w < 4; w++) {
            due("a waker", x.as(w, 0), w);
            due("a guard", x.as(w, 4), w);
            due("a novice", x.as(w, 5), w);
        }
    }

    static void promise30WakersAreThoseThereAre() {
        WakeLet x = open("l0,0;w0,0;o1,0,0;n1,0,0;");
        due("-1", x.as(-1, 0), BAD);
        due("2", x.as(2, 0), BAD);
        due("the least", x.as(MIN, 0), BAD);
        due("the most", x.as(MAX, 0), BAD);
        due("4 of four", hired('m', 3, 1).as(4, 0), BAD);
        due("none there", open("l0,0;w0,0;").as(0, 0), BAD);
        due("no agency", new WakeLet().as(0, 0), BAD);
    }

    static void promise30KindsAre0To5() {
        WakeLet x = open("l0,0;w0,0;n1,0,0;");
        due("-1", x.as(0, -1), BAD);
        due("0", x.as(0, 0), 0);
        due("5", x.as(0, 5), 0);
        due("6", x.as(0, 6), BAD);
        due("the least", x.as(0, MIN), BAD);
        due("the most", x.as(0, MAX), BAD);
    }

    static void promise30BadComesAheadOfKind() {
        WakeLet x = open("l0,0;w0,0;o1,0,0;");
        due("no such kind", x.as(0, 6), BAD);
        due("no such waker", x.as(1, 3), BAD);
        due("no finding", x.status(), 0);
        due("it is no mother", x.as(0, 3), KIND);
        due("finding", x.status(), 3);
    }

    static void promise30NothingChanges() {
        WakeLet x = open("l0,0;w0,0;n1,0,0;");
        x.as(0, 4);
        x.as(0, 1);
        due("kind", x.kind(0), 5);
        due("acts", x.count(6), 0);
    }

    // ---- 31: ask

    static void promise31WakersAreThoseThereAre() {
        WakeLet x = open("l0,0;w0,0;o1,0,0;o1,0,0;");
        due("-1", x.ask(-1, 0), BAD);
        due("0", x.ask(0, 1), 0);
        due("1", x.ask(1, 1), 1);
        due("2", x.ask(2, 0), BAD);
        due("the least", x.ask(MIN, 0), BAD);
        due("the most", x.ask(MAX, 0), BAD);
        due("4 of four", hired('m', 3, 1).ask(4, 0), BAD);
        due("none there", open("l0,0;w0,0;").ask(0, 0), BAD);
        due("no agency", new WakeLet().ask(0, 0), BAD);
    }

    static void promise31WhatIs0Or1() {
        WakeLet x = open("l0,0;w0,0;o1,0,0;o1,0,0;");
        due("-1", x.ask(1, -1), BAD);
        due("0", x.ask(1, 0), 2);
        due("1", x.ask(1, 1), 1);
        due("2", x.ask(1, 2), BAD);
        due("the least", x.ask(1, MIN), BAD);
        due("the most", x.ask(1, MAX), BAD);
    }

    static void promise31AnOwlIsAsked() {
        WakeLet x = hired('o', 1, 4);
        x.nights(2);
        ask(x, 1, 0, 4 + 1 + 8, 11, 10, 21, 20);
        ask(x, 1, 1, 1 + 8, 21, 20);
    }

    static void promise31AClerkIsAsked() {
        WakeLet x = hired('c', 2, 5);
        x.nights(2);
        ask(x, 2, 0, -(5 + 2 * (2 + 10)), 12, 11, 10, 24, 21, 20);
        ask(x, 2, 1, 2 * (2 + 10), 24, 21, 20);
    }

    static void promise31AMotherIsAsked() {
        WakeLet x = hired('m', 3, 6);
        x.nights(2);
        ask(x, 3, 0, 6 + (3 + 24 - 1000), 11, 10, 22, 21, 20);
        ask(x, 3, 1, 3 + 24 - 1000, 22, 21, 20);
    }

    static void promise31AGuardIsAsked() {
        WakeLet x = hired('g', 2, 3);
        x.nights(2);
        ask(x, 2, 0, 3 - 100, 13, 10);
        ask(x, 2, 1, 2 - (3 - 100), 23, 20, 13, 10);
    }

    static void promise31ANoviceIsAsked() {
        WakeLet x = hired('n', 1, 7);
        x.nights(2);
        ask(x, 1, 0, 2 * (7 - 100), 14, 13, 10);
        ask(x, 1, 1, 1 - 2 * (7 - 100), 23, 20, 14, 13, 10);
    }

    static void promise31WithoutHoursOrEarningsItIsFromNothing() {
        ask(hired('o', 0, 0), 0, 0, 0, 11, 10, 21, 20);
        ask(hired('o', 0, 0), 0, 1, 0, 21, 20);
        ask(hired('c', 0, 0), 0, 0, 0, 12, 11, 10, 24, 21, 20);
        ask(hired('m', 0, 0), 0, 0, -1000, 11, 10, 22, 21, 20);
        ask(hired('g', 0, 0), 0, 1, 100, 23, 20, 13, 10);
        ask(hired('n', 0, 0), 0, 1, 200, 23, 20, 14, 13, 10);
    }

    static void promise31TheMostEarnedIsTold() {
        WakeLet x = open("l0,6;w0,0;o9,0,0;m9,0,0;");
        passNights(x, 999);
        due("an owl", x.ask(0, 0), 9 + 999 * 9);
        due("a mother", x.ask(1, 1), 1 + 999 * 18 - 1000);
    }

    static void promise31HoursAreAskedThoughHeDoesNotLie() {
        ask(open("l0,6;w0,0;g3,0,5;"), 0, 0, 3 - 100, 13, 10);
        WakeLet x = hired('g', 0, 3);
        x.nights(2);
        due("he does not lie", x.waker(0, 3), 0);
        ask(x, 0, 0, 3 - 100, 13, 10);
    }

    static void promise31TheTraceIsEmptyAhead() {
        WakeLet x = open("l0,6;w0,0;c3,0,0;g3,0,0;");
        ask(x, 0, 0, -3, 12, 11, 10, 24, 21, 20);
        ask(x, 1, 0, -97, 13, 10);
        ask(x, 1, 0, -97, 13, 10);
    }

    static void promise31WhatIsRefusedLeavesTheTrace() {
        WakeLet x = open("l0,6;w0,0;g3,0,0;");
        x.ask(0, 1);
        x.ask(1, 0);
        x.ask(-1, 0);
        x.ask(0, 2);
        x.ask(0, -1);
        int[] due = {23, 20, 13, 10, NONE};
        for (int i = 0; i < due.length; i++) {
            due("trace " + i, x.trace(i), due[i]);
        }
    }

    // ---- 32: trace

    static void promise32IsNoneBeforeAnAsk() {
        due("new", new WakeLet().trace(0), NONE);
        due("an agency", hired('o', 0, 1).trace(0), NONE);
    }

    static void promise32OutsideItIsNone() {
        WakeLet x = hired('g', 0, 3);
        x.ask(0, 0);
        due("-1", x.trace(-1), NONE);
        due("0", x.trace(0), 13);
        due("1", x.trace(1), 10);
        due("2", x.trace(2), NONE);
        due("15", x.trace(15), NONE);
        due("16", x.trace(16), NONE);
        due("the least", x.trace(MIN), NONE);
        due("the most", x.trace(MAX), NONE);
    }

    static void promise32ItStaysUntilTheNextAsk() {
        WakeLet x = hired('n', 0, 3);
        x.image(0);
        x.ask(0, 0);
        x.nights(1);
        x.undo();
        x.restore(0);
        read(x, "l0,0;w0,0;");
        read(x, "l");
        x.as(0, 3);
        int[] due = {14, 13, 10, NONE};
        for (int i = 0; i < due.length; i++) {
            due("trace " + i, x.trace(i), due[i]);
        }
    }
}
