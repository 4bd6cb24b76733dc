/** Promises 6 to 8. */
public final class TextsTest {
    private static final Check CHECK = new Check("TextsTest");
    private static final String LAW = "l20,6;", CLIENT = "w40,5;", WAKER = "o9,5,5;";

    public static void main(String[] args) {
        feeds();
        agencies();
        faults();
        rooms();
        aFaultChangesNothing();
        CHECK.end();
    }

    private static void feeds() {
        WakeLet x = new WakeLet();
        CHECK.due("6: -1", x.feed(-1), WakeLet.BAD);
        CHECK.due("6: 256", x.feed(256), WakeLet.BAD);
        CHECK.due("6: 0", x.feed(0), 1);
        CHECK.due("6: 255", x.feed(255), 2);
        for (int n = 3; n <= 100; n++) {
            CHECK.due("6: byte " + n, x.feed('l'), n);
        }
        CHECK.due("6: full", x.feed('l'), WakeLet.FULL);
        CHECK.due("6: bad before full", x.feed(256), WakeLet.BAD);
        CHECK.due("6: count", x.count(7), 100);
        CHECK.due("7: read", x.agency(), -1000100);
        CHECK.due("7: empty then", x.count(7), 0);
        CHECK.due("6: anew", x.feed('l'), 1);
    }

    private static void agencies() {
        WakeLet x = new WakeLet();
        CHECK.due("7: one client", Check.read(x, "l0,0;w0,0;"), 1);
        CHECK.due("7: fault stays 0", x.fault(), 0);
        CHECK.due("7: no wakers", x.count(2), 0);
        CHECK.due("7: all", Check.read(x, LAW + CLIENT.repeat(5) + "o9,5,4;c0,0,0;g1,1,1;n2,2,5;"), 5);
        CHECK.due("7: wakers", x.count(2), 4);
        CHECK.due("7: weight", x.client(4, 0), 40);
        CHECK.due("7: worry", x.client(4, 1), 5);
        CHECK.due("7: hours", x.waker(0, 0), 9);
        CHECK.due("7: fits", x.waker(0, 1), 5);
        CHECK.due("7: for", x.waker(0, 2), 4);
        CHECK.due("7: for nobody", x.waker(3, 2), 5);
        CHECK.due("7: leading 0s", Check.read(x, "l08,03;w09,01;o05,01,00;c5,1,05;"), 1);
        CHECK.due("7: weight 9", x.client(0, 0), 9);
        CHECK.due("7: for nobody by two figures", x.waker(1, 2), 5);
        x.nights(3);
        x.grow(0, 1);
        CHECK.due("7: acts ahead", x.count(6), 4);
        CHECK.due("7: foretold ahead", x.earned(0, 7), 5 * 10);
        CHECK.due("7: again", Check.read(x, "l9,3;w10,1;w9,1;o5,1,0;"), 2);
        CHECK.due("7: night 0", x.count(3), 0);
        CHECK.due("7: nothing earned", x.count(5), 0);
        CHECK.due("7: no acts", x.count(6), 0);
        CHECK.due("7: none undone", x.undo(), WakeLet.STATE);
        CHECK.due("7: bears as told", x.count(4), 2);
    }

    private static void fault(String text, int number, int place) {
        WakeLet x = new WakeLet();
        CHECK.due("7: place of " + text, Check.read(x, text), -1000100 - place);
        CHECK.due("8: fault of " + text, x.fault(), number);
        CHECK.due("7: tape behind " + text, x.count(7), 0);
    }

    private static void faults() {
        fault("", 1, 0);
        fault("l", 1, 1);
        fault("w1,1;", 1, 0);
        fault("L1,1;", 1, 0);
        fault("ll", 1, 1);
        fault("l ", 1, 1);
        fault("l,1;", 1, 1);
        fault("l20", 1, 3);
        fault("l21,1;", 2, 1);
        fault("l99", 2, 1);
        fault("l021", 1, 1);
        fault("l123456789012,1;", 1, 1);
        fault("l20;", 1, 3);
        fault("l20,7;", 2, 4);
        fault("l20,06;w1,1;o10,1,1;", 2, 13);
        fault("l20,6,", 1, 5);
        fault("l20,6;", 1, 6);
        fault("l20,6;o1,1,5;", 1, 6);
        fault("l20,6;5", 1, 6);
        fault("l20,6;w41,", 2, 7);
        fault("l20,6;w40,6;", 2, 10);
        fault("l20,6;w40,", 1, 10);
        fault("l20,6;w40,5;l", 1, 12);
        fault("l20,6;w40,5;x", 1, 12);
        fault("l20,6;w40,5;" + (char) 200, 1, 12);
        fault("l20,6;w40,5;" + (char) 0, 1, 12);
        fault("l20,6;w40,5;o10,", 2, 13);
        fault("l20,6;w40,5;o9,6", 2, 15);
        fault("l20,6;w40,5;o9,5,1;", 2, 17);
        fault("l20,6;w40,5;o9,5,4;", 2, 17);
        fault("l20,6;w40,5;o9,5,6;", 2, 17);
        fault("l20,6;w40,5;o9,5,000;", 1, 17);
        fault("l20,6;w40,5;o9,5;", 1, 16);
        fault("l20,6;w40,5;o9,5,0", 1, 18);
        fault("l20,6;w40,5;o9,5,0,", 1, 18);
        fault("l20,6;w40,5;o9,5,0;w1,1;", 1, 19);
        fault("l20,6;w40,5;o9,5,0;;", 1, 19);
        fault("l20,6;w40,5;o-1", 1, 13);
    }

    private static void rooms() {
        fault(LAW + CLIENT.repeat(5) + "w", 3, 36);
        fault(LAW + CLIENT.repeat(6), 3, 36);
        fault(LAW + CLIENT.repeat(5) + WAKER.repeat(4) + "n", 3, 64);
        fault(LAW + CLIENT.repeat(5) + WAKER.repeat(5), 3, 64);
        fault(LAW + CLIENT.repeat(5) + WAKER.repeat(4) + "w", 1, 64);
        fault(LAW + CLIENT.repeat(5) + WAKER.repeat(4) + "x", 1, 64);
        fault(LAW + CLIENT.repeat(5) + WAKER + CLIENT, 1, 43);
    }

    private static void aFaultChangesNothing() {
        WakeLet x = Check.open("l8,3;w20,1;w15,2;o5,1,0;");
        x.nights(2);
        CHECK.due("7: a fault", Check.read(x, "l1,1;w1,1;w2,2;w3,3;o1,1,4;"), -1000125);
        CHECK.due("8: its number", x.fault(), 2);
        CHECK.due("7: clients stay", x.count(1), 2);
        CHECK.due("7: night stays", x.count(3), 2);
        CHECK.due("7: acts stay", x.count(6), 2);
        CHECK.due("7: weight stays", x.client(0, 0), 10);
        CHECK.due("7: bears stays", x.client(0, 2), 0);
        CHECK.due("7: then a good one", Check.read(x, "l1,1;w1,1;"), 1);
        CHECK.due("8: the latest stays", x.fault(), 2);
        CHECK.due("7: no text", x.agency(), -1000100);
        CHECK.due("8: the newest", x.fault(), 1);
        CHECK.due("7: the good one stays", x.count(1), 1);
    }
}
