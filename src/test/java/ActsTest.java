/** Promises 10 to 13. */
public final class ActsTest extends Sentences {
    public static void main(String[] args) {
        run(ActsTest.class);
    }

    // ---- 10: let

    static void promise10WakersAreThoseThereAre() {
        WakeLet x = open("l5,0;w9,1;o9,1,5;o9,1,5;");
        due("-1", x.let(-1, 0), BAD);
        due("0", x.let(0, 0), 5);
        due("1", x.let(1, 0), 5);
        due("2", x.let(2, 0), BAD);
        due("the least", x.let(MIN, 0), BAD);
        due("the most", x.let(MAX, 0), BAD);
        WakeLet y = open("l5,0;w9,1;o9,1,5;o9,1,5;o9,1,5;o9,1,5;");
        due("3", y.let(3, 0), 5);
        due("4", y.let(4, 0), BAD);
        due("none there", open("l5,0;w9,1;").let(0, 5), BAD);
    }

    static void promise10ClientsAreThoseThereAreAndNobody() {
        for (int clients = 1; clients <= 5; clients++) {
            WakeLet x = open("l5,0;" + "w9,1;".repeat(clients) + "o9,1,5;");
            for (int c = 0; c <= 4; c++) {
                due(c + " of " + clients, x.let(0, c), c >= clients ? BAD : c == 0 ? 5 : c - 1);
            }
            due("nobody of " + clients, x.let(0, 5), clients - 1);
            due("6 of " + clients, x.let(0, 6), BAD);
            due("-1 of " + clients, x.let(0, -1), BAD);
            due("the least of " + clients, x.let(0, MIN), BAD);
            due("the most of " + clients, x.let(0, MAX), BAD);
            due("acts of " + clients, x.count(6), clients + 1);
        }
    }

    static void promise10WhatIsSoAlreadyIsState() {
        WakeLet x = open("l5,0;w20,1;w1,2;o9,1,0;o9,1,5;");
        due("to 0", x.let(0, 0), STATE);
        due("to nobody", x.let(1, 5), STATE);
        due("no act", x.count(6), 0);
        due("to 1", x.let(0, 1), 0);
        due("to 1 again", x.let(0, 1), STATE);
        due("one act", x.count(6), 1);
        due("as it was", x.waker(0, 2), 1);
    }

    static void promise10HeIsLetFromNowOn() {
        WakeLet x = open("l5,0;w20,1;w20,2;o9,1,0;");
        due("to 1", x.let(0, 1), 0);
        due("so", x.waker(0, 2), 1);
        due("wakers of 0", x.client(0, 3), 0);
        due("wakers of 1", x.client(1, 3), 1);
        x.nights(1);
        due("0 is heavier", x.client(0, 0), 21);
        due("1 is lighter", x.client(1, 0), 16);
        due("to nobody", x.let(0, 5), 1);
        x.nights(1);
        due("1 is heavier", x.client(1, 0), 17);
    }

    static void promise10WhatIsRefusedLeavesAll() {
        WakeLet x = open("l5,0;w20,1;w1,2;o9,1,0;");
        x.let(0, 2);
        x.let(0, 6);
        x.let(1, 0);
        x.let(0, 0);
        due("to whom", x.waker(0, 2), 0);
        due("acts", x.count(6), 0);
    }

    // ---- 11: grow

    static void promise11ClientsAreThoseThereAre() {
        WakeLet x = open("l5,0;w9,1;w9,1;");
        due("-1", x.grow(-1, 1), BAD);
        due("0", x.grow(0, 1), 10);
        due("1", x.grow(1, 1), 10);
        due("2", x.grow(2, 1), BAD);
        due("the least", x.grow(MIN, 1), BAD);
        due("the most", x.grow(MAX, 1), BAD);
        WakeLet y = open("l5,0;w9,1;w9,1;w9,1;w9,1;w9,1;");
        due("4", y.grow(4, 1), 10);
        due("5", y.grow(5, 1), BAD);
    }

    static void promise11ByOneToTwenty() {
        WakeLet x = open("l5,0;w9,1;");
        due("0", x.grow(0, 0), BAD);
        due("-1", x.grow(0, -1), BAD);
        due("21", x.grow(0, 21), BAD);
        due("the least", x.grow(0, MIN), BAD);
        due("the most", x.grow(0, MAX), BAD);
        due("as it was", x.client(0, 0), 9);
        due("1", x.grow(0, 1), 10);
        due("20", x.grow(0, 20), 30);
    }

    static void promise11AWeightIs99AtMost() {
        WakeLet x = open("l5,0;w40,1;w40,1;w40,1;");
        for (int c = 0; c <= 2; c++) {
            x.grow(c, 20);
            x.grow(c, 18 + c);
        }
        due("79", x.client(1, 0), 79);
        due("78 by 20", x.grow(0, 20), 98);
        due("79 by 20", x.grow(1, 20), 99);
        due("80 by 20", x.grow(2, 20), 99);
        due("98 by 1", x.grow(0, 1), 99);
        due("99 by 1", x.grow(0, 1), 99);
        due("99 by 20", x.grow(0, 20), 99);
    }

    static void promise11AWorryOf0GrowsToo() {
        WakeLet x = open("l0,0;w0,1;");
        due("rests", x.count(4), 1);
        due("1", x.grow(0, 1), 1);
        due("no more", x.count(4), 0);
    }

    static void promise11ItIsAnActEvenAt99() {
        WakeLet x = open("l5,0;w40,1;w3,1;");
        x.grow(0, 20);
        x.grow(0, 20);
        x.grow(0, 20);
        x.grow(0, 1);
        due("acts", x.count(6), 4);
        due("undone", x.undo(), 3);
        due("99", x.client(0, 0), 99);
        due("undone", x.undo(), 2);
        due("80", x.client(0, 0), 80);
        due("the other stays", x.client(1, 0), 3);
    }

    static void promise11WhatIsRefusedIsNoAct() {
        WakeLet x = open("l5,0;w40,1;");
        x.grow(0, 0);
        x.grow(0, 21);
        x.grow(1, 1);
        due("acts", x.count(6), 0);
        due("weight", x.client(0, 0), 40);
    }

    // ---- 12: learn

    static void promise12WakersAreThoseThereAre() {
        WakeLet x = open("l5,0;w9,1;o9,1,5;o9,2,5;");
        due("-1", x.learn(-1, 0), BAD);
        due("0", x.learn(0, 0), 1);
        due("1", x.learn(1, 0), 2);
        due("2", x.learn(2, 0), BAD);
        due("the least", x.learn(MIN, 0), BAD);
        due("the most", x.learn(MAX, 0), BAD);
        WakeLet y = open("l5,0;w9,1;o9,1,5;o9,1,5;o9,1,5;o9,4,5;");
        due("3", y.learn(3, 0), 4);
        due("4", y.learn(4, 0), BAD);
        due("none there", open("l5,0;w9,1;").learn(0, 0), BAD);
    }

    static void promise12WorriesAre0To5() {
        WakeLet x = open("l5,0;w9,1;o9,1,0;");
        due("-1", x.learn(0, -1), BAD);
        due("6", x.learn(0, 6), BAD);
        due("the least", x.learn(0, MIN), BAD);
        due("the most", x.learn(0, MAX), BAD);
        due("as it was", x.waker(0, 1), 1);
        due("no act", x.count(6), 0);
        due("0", x.learn(0, 0), 1);
        due("5", x.learn(0, 5), 0);
        due("then", x.waker(0, 1), 5);
    }

    static void promise12WhatFitsAlreadyIsLearntToo() {
        WakeLet x = open("l5,0;w9,1;o9,1,0;");
        due("1", x.learn(0, 1), 1);
        due("an act", x.count(6), 1);
    }

    static void promise12ItFitsFromNowOn() {
        WakeLet x = open("l5,0;w40,1;m4,2,0;m4,2,0;");
        due("ahead", x.client(0, 4), 2);
        due("to 1", x.learn(0, 1), 2);
        due("then", x.client(0, 4), 8);
        due("she lies twice", x.waker(0, 3), 8);
        due("the other stays", x.waker(1, 1), 2);
        due("the other lies", x.waker(1, 3), 4);
    }

    // ---- 13: undo

    static void promise13WithoutAnActItIsState() {
        WakeLet x = new WakeLet();
        due("no agency", x.undo(), STATE);
        read(x, "l5,3;w40,1;o5,1,0;");
        due("none yet", x.undo(), STATE);
        x.nights(1);
        due("one", x.undo(), 0);
        due("none left", x.undo(), STATE);
        due("as it was", x.client(0, 0), 40);
    }

    static void promise13TheLatestIsUndoneFirst() {
        WakeLet x = open("l5,3;w40,1;w3,2;o5,1,0;n4,2,1;");
        x.nights(2);
        x.let(0, 1);
        x.grow(1, 7);
        x.learn(1, 4);
        x.nights(1);
        due("night", x.undo(), 5);
        due("night is", x.count(3), 2);
        due("weight is", x.client(1, 0), 7);
        due("earned is", x.waker(1, 4), 8);
        due("learned", x.undo(), 4);
        due("fits", x.waker(1, 1), 2);
        due("grown", x.undo(), 3);
        due("weight", x.client(1, 0), 0);
        due("let", x.undo(), 2);
        due("to whom", x.waker(0, 2), 0);
        due("second night", x.undo(), 1);
        due("night is", x.count(3), 1);
        due("weight", x.client(0, 0), 35);
        due("earned", x.count(5), 9);
        due("first night", x.undo(), 0);
        due("night is", x.count(3), 0);
        due("weights", x.client(0, 0), 40);
        due("weights", x.client(1, 0), 3);
        due("earned", x.count(5), 0);
    }

    static void promise13ACutNightIsUndoneWhole() {
        WakeLet x = open("l5,3;w4,1;o9,1,0;");
        x.nights(1);
        due("cut at 0", x.client(0, 0), 0);
        x.undo();
        due("4 again", x.client(0, 0), 4);
    }

    static void promise13LettingToNobodyIsUndone() {
        WakeLet x = open("l5,3;w40,1;w3,2;o5,1,1;");
        x.let(0, 5);
        x.let(0, 0);
        due("one", x.undo(), 1);
        due("to nobody", x.waker(0, 2), 5);
        due("none", x.undo(), 0);
        due("to the second", x.waker(0, 2), 1);
    }

    static void promise13TwentyFourActsAreKept() {
        WakeLet x = open("l5,3;w1,1;");
        for (int k = 0; k < 24; k++) {
            x.grow(0, 1);
        }
        due("24", x.count(6), 24);
        for (int left = 23; left >= 0; left--) {
            due("back", x.undo(), left);
        }
        due("the first is undone", x.client(0, 0), 1);
        due("none left", x.undo(), STATE);
    }

    static void promise13OfMoreTheOldestIsForgotten() {
        WakeLet x = open("l5,3;w1,1;");
        for (int k = 0; k < 25; k++) {
            x.grow(0, 1);
        }
        due("24", x.count(6), 24);
        for (int left = 23; left >= 0; left--) {
            due("back", x.undo(), left);
        }
        due("the first is not undone", x.client(0, 0), 2);
        due("none left", x.undo(), STATE);
    }

    static void promise13OfNightsAtOnceTheOldestAreForgotten() {
        WakeLet x = open("l5,3;w1,1;");
        x.grow(0, 5);
        x.nights(24);
        for (int k = 0; k < 24; k++) {
            x.undo();
        }
        due("night 0", x.count(3), 0);
        due("grown", x.client(0, 0), 6);
        due("forgotten", x.undo(), STATE);
    }

    static void promise13KeepingGoesRoundAndRound() {
        WakeLet x = open("l5,3;w1,1;o1,0,0;");
        for (int k = 0; k < 150; k++) {
            x.learn(0, k % 6);
        }
        for (int k = 0; k < 10; k++) {
            x.undo();
        }
        due("14 yet", x.count(6), 14);
        due("number 139", x.waker(0, 1), 139 % 6);
        for (int k = 0; k < 100; k++) {
            x.learn(0, k % 5);
        }
        for (int k = 99; k >= 76; k--) {
            due("number " + k, x.waker(0, 1), k % 5);
            x.undo();
        }
        due("number 75", x.waker(0, 1), 75 % 5);
        due("none left", x.undo(), STATE);
    }

    static void promise13AnActBehindAnUndoneOneTakesItsPlace() {
        WakeLet x = open("l5,3;w1,1;");
        x.grow(0, 1);
        x.grow(0, 2);
        x.undo();
        x.grow(0, 10);
        due("two", x.count(6), 2);
        due("back", x.undo(), 1);
        due("2", x.client(0, 0), 2);
        due("back", x.undo(), 0);
        due("1", x.client(0, 0), 1);
    }

    static void promise13OnlyActsAreUndone() {
        WakeLet x = open(READER);
        x.grow(0, 1);
        fill(x, 0, 0, 1, 2);
        x.image(0);
        x.ask(0, 1);
        x.feed('l');
        x.drop(7);
        due("one act", x.undo(), 0);
        due("rows", x.count(0), 1);
        due("tape", x.count(7), 1);
        due("trace", x.trace(0), 21);
        due("status", x.status(), 1);
        due("image", x.restore(0), 1);
        due("as it was kept", x.client(0, 0), 2);
    }

    static void promise13WithoutWakersNightsAreUndoneToo() {
        WakeLet x = open("l5,3;w5,1;w9,0;");
        due("nobody rests", x.nights(3), 0);
        x.undo();
        x.undo();
        due("one left", x.undo(), 0);
        due("one rests", x.count(4), 1);
    }
}
