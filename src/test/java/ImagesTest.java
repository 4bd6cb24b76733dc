/** Promises 27 and 28. */
public final class ImagesTest extends Sentences {
    private static final String HOUSE = "l5,6;w9,1;w0,2;c4,1,0;m1,2,5;";

    public static void main(String[] args) {
        run(ImagesTest.class);
    }

    // ---- 27: image

    static void promise27ImagesAre0And1() {
        WakeLet x = open(HOUSE);
        due("-1", x.image(-1), BAD);
        due("0", x.image(0), 1);
        due("1", x.image(1), 1);
        due("2", x.image(2), BAD);
        due("the least", x.image(MIN), BAD);
        due("the most", x.image(MAX), BAD);
    }

    static void promise27WithoutAnAgencyItIsStateBehindBad() {
        WakeLet x = new WakeLet();
        due("0", x.image(0), STATE);
        due("1", x.image(1), STATE);
        due("2", x.image(2), BAD);
        due("-1", x.image(-1), BAD);
        due("none is kept by it", x.restore(0), STATE);
        read(x, "l");
        due("behind a fault", x.image(0), STATE);
    }

    static void promise27ItIsNoActAndLeavesThem() {
        WakeLet x = open(HOUSE);
        x.nights(3);
        x.image(1);
        due("acts", x.count(6), 3);
        due("undone", x.undo(), 2);
        due("night", x.count(3), 2);
    }

    static void promise27WhatComesLaterDoesNotChangeIt() {
        WakeLet x = open(HOUSE);
        x.nights(3);
        x.image(0);
        x.undo();
        x.nights(9);
        x.grow(1, 9);
        x.let(1, 0);
        x.learn(0, 5);
        read(x, "l1,1;w1,0;");
        x.restore(0);
        due("night", x.count(3), 3);
        due("weight", x.client(1, 0), 0);
        due("to whom", x.waker(1, 2), 5);
        due("fits", x.waker(0, 1), 1);
    }

    static void promise27AnotherOneStandsInPlaceOfIt() {
        WakeLet x = open(HOUSE);
        x.image(0);
        x.nights(2);
        x.image(0);
        x.nights(2);
        x.restore(0);
        due("night", x.count(3), 2);
    }

    static void promise27TheTwoAreApart() {
        WakeLet x = open(HOUSE);
        x.image(0);
        due("the other is not kept", x.restore(1), STATE);
        x.nights(2);
        x.image(1);
        x.restore(0);
        due("night 0", x.count(3), 0);
        x.restore(1);
        due("night 2", x.count(3), 2);
    }

    static void promise27WhatIsRefusedLeavesTheImages() {
        WakeLet x = open(HOUSE);
        x.image(0);
        x.image(1);
        x.nights(2);
        x.image(2);
        x.image(-1);
        x.restore(0);
        due("0", x.count(3), 0);
        x.restore(1);
        due("1", x.count(3), 0);
    }

    // ---- 28: restore

    static void promise28ImagesAre0And1() {
        WakeLet x = open(HOUSE);
        x.image(0);
        x.image(1);
        due("-1", x.restore(-1), BAD);
        due("0", x.restore(0), 1);
        due("1", x.restore(1), 1);
        due("2", x.restore(2), BAD);
        due("the least", x.restore(MIN), BAD);
        due("the most", x.restore(MAX), BAD);
    }

    static void promise28IfNoneWasKeptItIsStateBehindBad() {
        WakeLet x = new WakeLet();
        due("0", x.restore(0), STATE);
        due("1", x.restore(1), STATE);
        due("2", x.restore(2), BAD);
        read(x, HOUSE);
        due("with an agency", x.restore(0), STATE);
        due("-1", x.restore(-1), BAD);
    }

    static void promise28AllOfTheAgencyIsAsItWas() {
        WakeLet x = open(HOUSE);
        x.nights(3);
        x.image(1);
        read(x, "l20,1;w1,0;w2,3;w3,4;o1,3,2;o2,4,1;g3,5,0;");
        x.nights(1);
        due("back", x.restore(1), 1);
        due("clients", x.count(1), 2);
        due("wakers", x.count(2), 2);
        due("night", x.count(3), 3);
        due("bears", x.count(4), 3);
        due("moon", x.earned(0, 4), 24);
        int[] first = {0, 1, 1, 1, 4};
        int[] clerk = {4, 1, 0, 4, 12};
        int[] mother = {1, 2, 5, 0, 0};
        for (int what = 0; what <= 4; what++) {
            due("client, " + what, x.client(0, what), first[what]);
            due("clerk, " + what, x.waker(0, what), clerk[what]);
            due("mother, " + what, x.waker(1, what), mother[what]);
        }
        due("a clerk", x.kind(0), 2);
        due("a mother", x.kind(1), 3);
        due("worry", x.client(1, 1), 2);
    }

    static void promise28NoActCanBeUndoneThen() {
        WakeLet x = open(HOUSE);
        x.nights(3);
        x.image(0);
        x.nights(1);
        x.restore(0);
        due("acts", x.count(6), 0);
        due("undo", x.undo(), STATE);
        due("night", x.count(3), 3);
        x.grow(0, 1);
        due("one since", x.undo(), 0);
        due("no more", x.undo(), STATE);
    }

    static void promise28ItCanBeDoneAgain() {
        WakeLet x = open(HOUSE);
        x.image(0);
        for (int k = 0; k < 3; k++) {
            x.nights(5);
            x.let(1, 0);
            due("again", x.restore(0), 1);
            due("night", x.count(3), 0);
            due("to whom", x.waker(1, 2), 5);
        }
    }

    static void promise28RowsTheTapeTheTraceAndTheFaultStay() {
        WakeLet x = open(READER);
        x.image(0);
        read(x, "l21");
        fill(x, 3, 0, 1, 16);
        x.ask(0, 1);
        x.feed('l');
        x.set(3, 2, 0);
        x.restore(0);
        due("status", x.status(), 2);
        due("fault", x.fault(), 2);
        due("trace", x.trace(1), 20);
        due("tape", x.count(7), 1);
        dueItems("row", x, 3, 1, 16);
    }

    static void promise28WhatIsRefusedLeavesAll() {
        WakeLet x = open(HOUSE);
        x.image(0);
        x.nights(2);
        due("1 was not kept", x.restore(1), STATE);
        due("2", x.restore(2), BAD);
        due("night", x.count(3), 2);
        due("acts", x.count(6), 2);
    }
}
