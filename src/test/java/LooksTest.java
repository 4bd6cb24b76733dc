/** Promises 14 and 15. */
public final class LooksTest extends Sentences {
    public static void main(String[] args) {
        run(LooksTest.class);
    }

    // ---- 14: client

    static void promise14ClientsAreThoseThereAre() {
        WakeLet x = open("l8,3;w8,1;w9,2;");
        for (int what = 0; what <= 4; what++) {
            due("-1", x.client(-1, what), BAD);
            due("2", x.client(2, what), BAD);
        }
        due("0", x.client(0, 0), 8);
        due("1", x.client(1, 0), 9);
        due("the least", x.client(MIN, 0), BAD);
        due("the most", x.client(MAX, 0), BAD);
        WakeLet y = open("l8,3;w8,1;w9,2;w1,0;w2,0;w3,0;");
        due("4", y.client(4, 0), 3);
        due("5", y.client(5, 0), BAD);
    }

    static void promise14WhatIs0To4() {
        WakeLet x = open("l8,3;w8,1;o5,1,0;");
        int[] due = {8, 1, 1, 1, 5};
        for (int what = 0; what <= 4; what++) {
            due("what " + what, x.client(0, what), due[what]);
        }
        due("-1", x.client(0, -1), BAD);
        due("5", x.client(0, 5), BAD);
        due("the least", x.client(0, MIN), BAD);
        due("the most", x.client(0, MAX), BAD);
    }

    static void promise14HeRestsByJustWhatIsBorne() {
        WakeLet x = open("l8,3;w7,1;w8,1;w9,1;");
        due("less", x.client(0, 2), 1);
        due("just so much", x.client(1, 2), 1);
        due("more", x.client(2, 2), 0);
    }

    static void promise14WakersOfHisAreBits() {
        WakeLet x = open("l8,3;w8,1;w9,2;w9,2;w9,2;w9,2;o5,1,4;c9,2,4;m4,2,4;o9,0,4;");
        due("all", x.client(4, 3), 15);
        due("none", x.client(0, 3), 0);
        x.let(0, 5);
        x.let(3, 0);
        due("some", x.client(4, 3), 6);
        due("one", x.client(0, 3), 8);
    }

    static void promise14LighterIsWhatIsTakenByOne() {
        WakeLet x = open("l8,3;w40,1;w40,2;o5,1,0;c9,2,0;m4,2,1;o9,0,1;");
        due("5 before half of 9", x.client(0, 4), 5);
        due("a mother's 8", x.client(1, 4), 8);
        x.learn(2, 0);
        due("half of 9 before half of 4", x.client(1, 4), 4);
    }

    static void promise14LighterIsNotCutAt0() {
        WakeLet x = open("l8,3;w3,1;w0,1;m9,1,0;o9,1,1;");
        due("18 of 3", x.client(0, 4), 18);
        due("9 of 0", x.client(1, 4), 9);
    }

    static void promise14LighterIs0IfNothingIsTaken() {
        WakeLet x = open("l8,0;w3,1;w3,1;w3,1;o1,2,0;c9,1,1;o0,1,0;");
        due("half of 1", x.client(0, 4), 0);
        due("a clerk by the moon", x.client(1, 4), 0);
        due("nobody's", x.client(2, 4), 0);
    }

    static void promise14LighterIsByThisNight() {
        WakeLet x = open("l8,3;w40,1;w40,1;w40,1;c9,1,0;g9,1,1;n0,1,2;");
        int[] clerk = {9, 9, 9, 0, 9};
        int[] guard = {9, 9, 0, 9, 9};
        int[] novice = {0, 0, 1, 1, 2};
        for (int t = 0; t < 5; t++) {
            due("clerk, night " + t, x.client(0, 4), clerk[t]);
            due("guard, night " + t, x.client(1, 4), guard[t]);
            due("novice, night " + t, x.client(2, 4), novice[t]);
            x.nights(1);
        }
    }

    // ---- 15: waker

    static void promise15WakersAreThoseThereAre() {
        WakeLet x = open("l8,3;w8,1;o5,1,0;m9,1,0;");
        for (int what = 0; what <= 4; what++) {
            due("-1", x.waker(-1, what), BAD);
            due("2", x.waker(2, what), BAD);
        }
        due("0", x.waker(0, 0), 5);
        due("1", x.waker(1, 0), 9);
        due("the least", x.waker(MIN, 0), BAD);
        due("the most", x.waker(MAX, 0), BAD);
        WakeLet y = open("l8,3;w8,1;o5,1,0;m9,1,0;o1,1,0;o2,1,0;");
        due("3", y.waker(3, 0), 2);
        due("4", y.waker(4, 0), BAD);
        due("none there", open("l8,3;w8,1;").waker(0, 0), BAD);
    }

    static void promise15WhatIs0To4() {
        WakeLet x = open("l8,3;w8,1;m9,1,0;");
        x.nights(2);
        int[] due = {9, 1, 0, 18, 36};
        for (int what = 0; what <= 4; what++) {
            due("what " + what, x.waker(0, what), due[what]);
        }
        due("-1", x.waker(0, -1), BAD);
        due("5", x.waker(0, 5), BAD);
        due("the least", x.waker(0, MIN), BAD);
        due("the most", x.waker(0, MAX), BAD);
    }

    static void promise15LetToNobodyIs5() {
        WakeLet x = open("l8,3;w8,1;o9,1,5;");
        due("to whom", x.waker(0, 2), 5);
        due("he does not lie", x.waker(0, 3), 0);
        x.let(0, 0);
        due("to whom then", x.waker(0, 2), 0);
        due("he lies", x.waker(0, 3), 9);
    }

    static void promise15HeLiesThoughHeTakesNothing() {
        WakeLet x = open("l8,3;w0,1;o9,1,0;o1,2,0;");
        due("of 0", x.waker(0, 3), 9);
        due("half of 1", x.waker(1, 3), 1);
        due("nothing earned yet", x.waker(0, 4), 0);
    }

    static void promise15EarnedIsAddedUpToTheLastNight() {
        WakeLet x = open("l8,3;w8,1;m9,1,0;n9,1,5;");
        passNights(x, 999);
        due("999 times 18", x.waker(0, 4), 17982);
        due("let to nobody", x.waker(1, 4), 0);
    }
}
