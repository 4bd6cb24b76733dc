/** Promises 9 to 15. */
public final class ActsTest {
    private static final Check CHECK = new Check("ActsTest");

    public static void main(String[] args) {
        lying();
        nights();
        lets();
        grows();
        learns();
        undos();
        clients();
        wakers();
        CHECK.end();
    }

    /** How long one lies in each of the nights 0 on, by a text whose waker 0 he is. */
    private static void lies(String text, int... hours) {
        WakeLet x = Check.open(text);
        int earned = 0;
        for (int t = 0; t < hours.length; t++) {
            CHECK.due("15: " + text + " in night " + t, x.waker(0, 3), hours[t]);
            x.nights(1);
            earned += hours[t];
            CHECK.due("9: " + text + " has earned behind " + t, x.waker(0, 4), earned);
        }
    }

    private static void lying() {
        lies("l0,2;w40,1;o7,1,0;", 7, 7, 7, 7, 7, 7, 7, 7, 7, 7);
        lies("l0,2;w40,1;o7,2,0;", 7, 7, 7);
        lies("l0,2;w40,1;o7,1,5;", 0, 0, 0);
        lies("l0,2;w40,1;c7,1,0;", 7, 7, 0, 7, 7, 7, 7, 7, 7, 0, 7);
        lies("l0,0;w40,1;c7,1,0;", 0, 7, 7, 7, 7, 7, 7, 0, 7);
        lies("l0,2;w40,1;c7,1,5;", 0, 0, 0);
        lies("l0,2;w40,1;m7,1,0;", 14, 14, 14, 14);
        lies("l0,2;w40,1;m7,2,0;", 7, 7, 7, 7);
        lies("l0,2;w40,1;m7,1,5;", 0, 0, 0);
        lies("l0,2;w40,1;g7,1,0;", 7, 7, 0, 7, 7, 0, 7, 7, 0);
        lies("l0,2;w40,1;g7,1,5;", 0, 0, 0);
        lies("l0,2;w40,1;n3,1,0;", 3, 3, 1, 4, 5, 2, 6, 6, 4, 7, 8, 5, 9, 9, 7, 9, 9, 8, 9, 9, 9, 9, 9, 9);
        lies("l0,2;w40,1;n9,1,0;", 9, 9, 1, 9, 9, 2);
        lies("l0,2;w40,1;n0,1,0;", 0, 0, 1, 1, 2, 2, 3);
        lies("l0,2;w40,1;n3,1,5;", 0, 0, 0, 0);
    }

    private static void nights() {
        WakeLet x = new WakeLet();
        CHECK.due("9: state before bad", x.nights(0), WakeLet.STATE);
        Check.read(x, "l5,0;w20,1;w1,2;w0,3;w10,4;o9,1,0;o9,1,0;m4,4,3;o1,0,1;");
        CHECK.due("9: 0", x.nights(0), WakeLet.BAD);
        CHECK.due("9: -1", x.nights(-1), WakeLet.BAD);
        CHECK.due("9: 25", x.nights(25), WakeLet.BAD);
        CHECK.due("9: one", x.nights(1), 0b1110);
        CHECK.due("9: by the one who takes most alone", x.client(0, 0), 11);
        CHECK.due("9: half of 1 is nothing", x.client(1, 0), 2);
        CHECK.due("9: 0 stays", x.client(2, 0), 0);
        CHECK.due("9: a mother's worry", x.client(3, 0), 2);
        CHECK.due("9: all earn", x.count(5), 9 + 9 + 8 + 1);
        CHECK.due("9: night", x.count(3), 1);
        CHECK.due("9: more", x.nights(2), 0b1111);
        CHECK.due("9: cut at 0", x.client(0, 0), 0);
        CHECK.due("9: acts", x.count(6), 3);
        atTheEnds();
    }

    private static void atTheEnds() {
        WakeLet x = Check.open("l20,0;w40,0;w20,0;o9,1,1;");
        for (int k = 0; k < 41; k++) {
            x.nights(24);
        }
        CHECK.due("9: 99 at most", x.client(0, 0), 99);
        CHECK.due("9: night 984", x.count(3), 984);
        CHECK.due("9: 1000", x.nights(16), WakeLet.FULL);
        CHECK.due("9: nothing changed", x.count(3), 984);
        CHECK.due("9: bad before full", x.nights(25), WakeLet.BAD);
        CHECK.due("9: 999", x.nights(15), 2);
        CHECK.due("9: there", x.count(3), 999);
        CHECK.due("9: no more", x.nights(1), WakeLet.FULL);
        CHECK.due("9: acts kept", x.count(6), 24);
        CHECK.due("9: earned", x.count(5), 999 * 9);
        CHECK.due("16: foretold beyond", x.weight(1, 60), 0);
        CHECK.due("17: foretold beyond", x.earned(0, 60), 1059 * 9);
        CHECK.due("13: one back", x.undo(), 23);
        CHECK.due("13: night", x.count(3), 998);
        CHECK.due("9: and on", x.nights(1), 2);
        WakeLet y = Check.open("l5,0;w0,0;w6,0;o9,0,1;");
        CHECK.due("9: bears just", y.client(0, 2), 1);
        CHECK.due("9: bears not", y.client(1, 2), 0);
        y.learn(0, 1);
        y.let(0, 0);
        CHECK.due("9: 0 less is 0", y.nights(1), 1);
        CHECK.due("9: alone it grows", y.client(1, 0), 7);
    }

    private static void lets() {
        WakeLet x = Check.open("l5,0;w20,1;w1,2;o9,1,0;o9,1,5;");
        CHECK.due("10: to 1", x.let(0, 1), 0);
        CHECK.due("10: so", x.waker(0, 2), 1);
        CHECK.due("10: again", x.let(0, 1), WakeLet.STATE);
        CHECK.due("10: to nobody", x.let(0, 5), 1);
        CHECK.due("10: nobody again", x.let(1, 5), WakeLet.STATE);
        CHECK.due("10: from nobody", x.let(1, 0), 5);
        CHECK.due("10: acts", x.count(6), 3);
        CHECK.due("10: no client 2", x.let(0, 2), WakeLet.BAD);
        CHECK.due("10: no client 4", x.let(0, 4), WakeLet.BAD);
        CHECK.due("10: 6", x.let(0, 6), WakeLet.BAD);
        CHECK.due("10: -1", x.let(0, -1), WakeLet.BAD);
        CHECK.due("10: no waker 2", x.let(2, 0), WakeLet.BAD);
        CHECK.due("10: no waker -1", x.let(-1, 0), WakeLet.BAD);
        CHECK.due("10: no agency", new WakeLet().let(0, 5), WakeLet.BAD);
        CHECK.due("10: refusals are no acts", x.count(6), 3);
    }

    private static void grows() {
        WakeLet x = Check.open("l5,0;w40,1;w0,2;");
        CHECK.due("11: by 20", x.grow(0, 20), 60);
        CHECK.due("11: by 20", x.grow(0, 20), 80);
        CHECK.due("11: 99 at most", x.grow(0, 20), 99);
        CHECK.due("11: at most, again", x.grow(0, 1), 99);
        CHECK.due("11: from 0", x.grow(1, 1), 1);
        CHECK.due("11: acts", x.count(6), 5);
        CHECK.due("11: 0", x.grow(0, 0), WakeLet.BAD);
        CHECK.due("11: 21", x.grow(0, 21), WakeLet.BAD);
        CHECK.due("11: no client 2", x.grow(2, 1), WakeLet.BAD);
        CHECK.due("11: no client -1", x.grow(-1, 1), WakeLet.BAD);
        x.undo();
        x.undo();
        x.undo();
        CHECK.due("13: as it was", x.client(0, 0), 80);
    }

    private static void learns() {
        WakeLet x = Check.open("l5,0;w40,1;m4,2,0;");
        CHECK.due("12: ahead", x.client(0, 4), 2);
        CHECK.due("12: to 1", x.learn(0, 1), 2);
        CHECK.due("12: then", x.client(0, 4), 8);
        CHECK.due("12: the same", x.learn(0, 1), 1);
        CHECK.due("12: to 5", x.learn(0, 5), 1);
        CHECK.due("12: to 0", x.learn(0, 0), 5);
        CHECK.due("12: acts", x.count(6), 4);
        CHECK.due("12: 6", x.learn(0, 6), WakeLet.BAD);
        CHECK.due("12: -1", x.learn(0, -1), WakeLet.BAD);
        CHECK.due("12: no waker 1", x.learn(1, 0), WakeLet.BAD);
        CHECK.due("12: no waker -1", x.learn(-1, 0), WakeLet.BAD);
    }

    private static void undos() {
        WakeLet x = Check.open("l5,3;w40,1;w3,2;o5,1,0;n4,2,1;");
        x.nights(2);
        x.let(0, 1);
        x.grow(1, 7);
        x.learn(1, 4);
        x.nights(1);
        CHECK.due("13: night", x.undo(), 5);
        CHECK.due("13: night is", x.count(3), 2);
        CHECK.due("13: earned is", x.waker(1, 4), 8);
        CHECK.due("13: learned", x.undo(), 4);
        CHECK.due("13: fits", x.waker(1, 1), 2);
        CHECK.due("13: grown", x.undo(), 3);
        CHECK.due("13: weight", x.client(1, 0), 0);
        CHECK.due("13: let", x.undo(), 2);
        CHECK.due("13: to whom", x.waker(0, 2), 0);
        CHECK.due("13: second night", x.undo(), 1);
        CHECK.due("13: weight 0", x.client(0, 0), 35);
        CHECK.due("13: first night", x.undo(), 0);
        CHECK.due("13: weight 0", x.client(0, 0), 40);
        CHECK.due("13: weight 1", x.client(1, 0), 3);
        CHECK.due("13: earned", x.count(5), 0);
        CHECK.due("13: none", x.undo(), WakeLet.STATE);
        x.let(1, 5);
        x.let(1, 0);
        x.undo();
        CHECK.due("13: to nobody again", x.waker(1, 2), 5);
        x.undo();
        CHECK.due("13: to the second again", x.waker(1, 2), 1);
        forgetting(x);
    }

    private static void forgetting(WakeLet x) {
        x.grow(0, 1);
        x.grow(0, 2);
        x.nights(23);
        CHECK.due("13: 24 at most", x.count(6), 24);
        x.let(1, 5);
        for (int left = 23; left >= 0; left--) {
            CHECK.due("13: back", x.undo(), left);
        }
        CHECK.due("13: the oldest are forgotten", x.undo(), WakeLet.STATE);
        CHECK.due("13: night 0", x.count(3), 0);
        CHECK.due("13: weight", x.client(0, 0), 43);
        for (int k = 0; k < 60; k++) {
            x.learn(0, k % 6);
        }
        for (int k = 0; k < 10; k++) {
            x.undo();
        }
        CHECK.due("13: 14 yet", x.count(6), 14);
        CHECK.due("13: fits", x.waker(0, 1), 1);
    }

    private static void clients() {
        WakeLet x = Check.open("l8,3;w8,1;w9,2;o5,1,0;c9,2,0;m4,2,1;o9,0,1;");
        CHECK.due("14: weight", x.client(0, 0), 8);
        CHECK.due("14: worry", x.client(0, 1), 1);
        CHECK.due("14: rests", x.client(0, 2), 1);
        CHECK.due("14: does not", x.client(1, 2), 0);
        CHECK.due("14: wakers of 0", x.client(0, 3), 3);
        CHECK.due("14: wakers of 1", x.client(1, 3), 12);
        CHECK.due("14: lighter 0", x.client(0, 4), 5);
        CHECK.due("14: lighter 1", x.client(1, 4), 8);
        x.learn(2, 0);
        CHECK.due("14: half of 9", x.client(1, 4), 4);
        x.nights(3);
        CHECK.due("14: not cut at 0", x.client(0, 4), 5);
        x.let(0, 5);
        CHECK.due("14: a clerk by the moon", x.client(0, 4), 0);
        CHECK.due("14: -1", x.client(0, -1), WakeLet.BAD);
        CHECK.due("14: 5", x.client(0, 5), WakeLet.BAD);
        CHECK.due("14: no client", x.client(2, 0), WakeLet.BAD);
        CHECK.due("14: no client -1", x.client(-1, 0), WakeLet.BAD);
    }

    private static void wakers() {
        WakeLet x = Check.open("l8,3;w8,1;o5,1,0;m9,1,0;");
        CHECK.due("15: hours", x.waker(1, 0), 9);
        CHECK.due("15: fits", x.waker(1, 1), 1);
        CHECK.due("15: for", x.waker(1, 2), 0);
        CHECK.due("15: lies", x.waker(1, 3), 18);
        x.nights(2);
        CHECK.due("15: earned", x.waker(1, 4), 36);
        CHECK.due("15: -1", x.waker(0, -1), WakeLet.BAD);
        CHECK.due("15: 5", x.waker(0, 5), WakeLet.BAD);
        CHECK.due("15: no waker", x.waker(2, 0), WakeLet.BAD);
        CHECK.due("15: no waker -1", x.waker(-1, 0), WakeLet.BAD);
    }
}
