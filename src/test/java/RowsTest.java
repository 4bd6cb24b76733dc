/** Promises 1 to 5, and 34 as far as rows go. */
public final class RowsTest {
    private static final int NULL = -1000011, PLACE = -1000012, SIZE = -1000014, STORE = -1000015;
    private static final int MIN = Integer.MIN_VALUE, MAX = Integer.MAX_VALUE;
    private static final Check CHECK = new Check("RowsTest");

    public static void main(String[] args) {
        newObject();
        rows();
        sets();
        copies();
        drops();
        status();
        CHECK.end();
    }

    private static void newObject() {
        WakeLet x = new WakeLet();
        for (int what = 0; what <= 7; what++) {
            CHECK.due("1: count(" + what + ")", x.count(what), 0);
        }
        CHECK.due("1: status", x.status(), 0);
        CHECK.due("1: fault", x.fault(), 0);
        CHECK.due("1: undo", x.undo(), WakeLet.STATE);
        CHECK.due("1: nights", x.nights(0), WakeLet.STATE);
        CHECK.due("1: trace", x.trace(0), WakeLet.NONE);
        CHECK.due("1: restore", x.restore(1), WakeLet.STATE);
        for (int r = 0; r < 8; r++) {
            CHECK.due("1: set", x.set(r, 0, 0), NULL);
        }
    }

    private static void rows() {
        WakeLet x = new WakeLet();
        CHECK.due("2: none", x.row(0, 0, 0), 0);
        CHECK.due("2: 40", x.row(7, 2, 40), 40);
        CHECK.due("2: there", x.count(0), 2);
        CHECK.due("2: row -1", x.row(-1, 0, 1), WakeLet.BAD);
        CHECK.due("2: row 8", x.row(8, 0, 1), WakeLet.BAD);
        CHECK.due("2: lane -1", x.row(0, -1, 1), WakeLet.BAD);
        CHECK.due("2: lane 3", x.row(0, 3, 1), WakeLet.BAD);
        CHECK.due("2: 41", x.row(0, 0, 41), WakeLet.BAD);
        CHECK.due("2: most", x.row(0, 0, MAX), WakeLet.BAD);
        CHECK.due("2: bad before size", x.row(8, 0, -1), WakeLet.BAD);
        CHECK.due("2: bad lane before size", x.row(0, 3, -1), WakeLet.BAD);
        CHECK.due("2: -1", x.row(7, 0, -1), SIZE);
        CHECK.due("2: least", x.row(7, 0, MIN), SIZE);
        CHECK.due("2: the old one stays", x.set(7, 39, 70000), 70000);
        CHECK.due("2: in place", x.row(7, 2, 40), 40);
        x.row(6, 2, 40);
        x.set(6, 39, 9);
        CHECK.due("2: zeroes come", x.copy(7, 0, 6, 0, 40), 40);
        CHECK.due("2: still", x.count(0), 3);
        zeroesAtFirst();
    }

    private static void zeroesAtFirst() {
        WakeLet x = Check.open("l0,0;w1,0;o0,0,5;");
        for (int lane = 0; lane <= 2; lane++) {
            x.row(0, lane, 40);
            for (int i = 0; i < 40; i++) {
                x.set(0, i, 1);
            }
            CHECK.due("2: one lit", x.fits(0, 0, 0, 1, 0), 0);
            x.row(0, lane, 40);
            CHECK.due("2: dark from 0", x.fits(0, 0, 0, 16, 0), 33);
            CHECK.due("2: dark from 16", x.fits(0, 0, 16, 16, 0), 33);
            CHECK.due("2: dark to 40", x.fits(0, 0, 24, 16, 0), 33);
        }
    }

    private static void sets() {
        WakeLet x = new WakeLet();
        x.row(0, 0, 3);
        x.row(1, 1, 3);
        x.row(2, 2, 3);
        CHECK.due("3: byte 127", x.set(0, 0, 127), 127);
        CHECK.due("3: byte 128", x.set(0, 0, 128), -128);
        CHECK.due("3: byte 256", x.set(0, 0, 256), 0);
        CHECK.due("3: byte -129", x.set(0, 0, -129), 127);
        CHECK.due("3: short 32768", x.set(1, 2, 32768), -32768);
        CHECK.due("3: short 65536", x.set(1, 2, 65536), 0);
        CHECK.due("3: short -1", x.set(1, 2, -1), -1);
        CHECK.due("3: int most", x.set(2, 1, MAX), MAX);
        CHECK.due("3: int least", x.set(2, 1, MIN), MIN);
        CHECK.due("3: row 8", x.set(8, 0, 0), WakeLet.BAD);
        CHECK.due("3: row -1", x.set(-1, 0, 0), WakeLet.BAD);
        CHECK.due("3: null before place", x.set(3, -1, 0), NULL);
        CHECK.due("3: place -1", x.set(0, -1, 0), PLACE);
        CHECK.due("3: place 3", x.set(0, 3, 0), PLACE);
        CHECK.due("3: place most", x.set(0, MAX, 0), PLACE);
        CHECK.due("3: place least", x.set(0, MIN, 0), PLACE);
    }

    /** What rows hold is seen through fits: an agency whose first client rests behind the items that are 1. */
    private static void copies() {
        WakeLet x = Check.open("l0,0;w0,0;o0,0,5;");
        x.row(0, 2, 8);
        x.row(1, 2, 8);
        for (int i = 0; i < 8; i++) {
            x.set(0, i, i < 3 ? 1 : 0);
        }
        CHECK.due("4: fits ahead", x.fits(0, 0, 0, 3, 0), 33);
        CHECK.due("4: overlapping up", x.copy(0, 0, 0, 2, 4), 4);
        CHECK.due("4: five now", x.fits(0, 0, 0, 5, 0), 33);
        CHECK.due("4: no sixth", x.fits(0, 0, 0, 6, 0), 0);
        CHECK.due("4: overlapping down", x.copy(0, 3, 0, 0, 5), 5);
        CHECK.due("4: two left", x.fits(0, 0, 0, 2, 0), 33);
        CHECK.due("4: no third", x.fits(0, 0, 2, 1, 0), 0);
        CHECK.due("4: to another", x.copy(0, 0, 1, 6, 2), 2);
        CHECK.due("4: there", x.fits(0, 1, 6, 2, 0), 33);
        CHECK.due("4: not ahead of it", x.fits(0, 1, 5, 1, 0), 0);
        CHECK.due("4: none at the end", x.copy(0, 8, 1, 8, 0), 0);
        CHECK.due("4: beyond the end", x.copy(0, 9, 1, 0, 0), PLACE);
        CHECK.due("4: beyond the other's", x.copy(0, 0, 1, 9, 0), PLACE);
        CHECK.due("4: too many", x.copy(0, 5, 1, 0, 4), PLACE);
        CHECK.due("4: too many there", x.copy(0, 0, 1, 5, 4), PLACE);
        CHECK.due("4: i -1", x.copy(0, -1, 1, 0, 1), PLACE);
        CHECK.due("4: j -1", x.copy(0, 0, 1, -1, 1), PLACE);
        CHECK.due("4: n -1", x.copy(0, 0, 1, 0, -1), PLACE);
        CHECK.due("4: sums run over", x.copy(0, MAX, 1, MAX, MAX), PLACE);
        CHECK.due("4: least", x.copy(0, MIN, 1, MIN, MIN), PLACE);
        CHECK.due("4: i most", x.copy(0, MAX, 1, 0, 1), PLACE);
        x.row(2, 1, 8);
        CHECK.due("4: lanes before places", x.copy(0, -1, 2, 0, 1), STORE);
        CHECK.due("4: lanes of none", x.copy(0, 0, 2, 0, 0), STORE);
        CHECK.due("4: null before lanes", x.copy(3, -1, 2, 0, 1), NULL);
        CHECK.due("4: null there", x.copy(2, -1, 3, 0, 1), NULL);
        CHECK.due("4: bad before null", x.copy(3, 0, 8, 0, 1), WakeLet.BAD);
        CHECK.due("4: bad first", x.copy(-1, 0, 3, 0, 1), WakeLet.BAD);
        CHECK.due("4: bad first, above", x.copy(8, 0, 0, 0, 0), WakeLet.BAD);
        CHECK.due("4: bad second, below", x.copy(0, 0, -1, 0, 0), WakeLet.BAD);
        x.row(7, 2, 8);
        CHECK.due("4: from the last row", x.copy(7, 0, 1, 6, 2), 2);
        CHECK.due("4: into the last row", x.copy(0, 0, 7, 6, 2), 2);
        CHECK.due("4: two are dark", x.fits(0, 1, 6, 1, 0), 0);
        CHECK.due("4: two are lit", x.fits(0, 7, 6, 2, 0), 33);
    }

    private static void drops() {
        WakeLet x = new WakeLet();
        x.row(4, 1, 17);
        x.row(5, 1, 0);
        CHECK.due("5: 17", x.drop(4), 17);
        CHECK.due("5: count", x.count(0), 1);
        CHECK.due("5: an empty one", x.drop(5), 0);
        CHECK.due("5: none", x.count(0), 0);
        CHECK.due("5: again", x.drop(4), NULL);
        CHECK.due("5: -1", x.drop(-1), WakeLet.BAD);
        CHECK.due("5: 8", x.drop(8), WakeLet.BAD);
        CHECK.due("5: missing", x.set(4, 0, 1), NULL);
        x.row(0, 0, 2);
        x.row(7, 0, 3);
        CHECK.due("5: the first", x.drop(0), 2);
        CHECK.due("5: the last", x.drop(7), 3);
    }

    private static void status() {
        WakeLet x = new WakeLet();
        x.row(0, 0, -1);
        CHECK.due("34: size", x.status(), 4);
        x.row(8, 0, -1);
        CHECK.due("34: bad leaves it", x.status(), 4);
        x.count(0);
        x.feed(1);
        CHECK.due("34: calls without a row leave it", x.status(), 4);
        CHECK.due("34: status leaves it", x.status(), 4);
        x.row(0, 0, 1);
        CHECK.due("34: a row", x.status(), 0);
        x.set(0, 1, 1);
        CHECK.due("34: place", x.status(), 2);
        x.set(0, 0, 1);
        CHECK.due("34: set", x.status(), 0);
        x.drop(1);
        CHECK.due("34: null", x.status(), 1);
        x.copy(0, 0, 0, 0, 1);
        CHECK.due("34: copy", x.status(), 0);
        x.row(1, 1, 1);
        x.copy(0, 0, 1, 0, 1);
        CHECK.due("34: store", x.status(), 5);
        x.drop(1);
        CHECK.due("34: drop", x.status(), 0);
    }
}
