/** Promises 16 to 23. */
public final class ForetoldTest {
    private static final Check CHECK = new Check("ForetoldTest");
    private static final String HOUSE = "l8,3;w20,1;w15,2;w9,0;w30,4;o5,1,0;c6,2,0;m4,4,3;n3,0,1;";

    public static void main(String[] args) {
        asTheNightsGo();
        wrongInputs();
        whens();
        bests();
        fewests();
        withoutWakers();
        CHECK.end();
    }

    private static void asTheNightsGo() {
        WakeLet x = Check.open(HOUSE);
        x.nights(5);
        WakeLet y = Check.open(HOUSE);
        y.nights(5);
        for (int d = 0; d <= 60; d++) {
            CHECK.due("18: rests " + d, x.rests(d), y.count(4));
            for (int k = 0; k < 4; k++) {
                CHECK.due("16: weight " + d, x.weight(k, d), y.client(k, 0));
                CHECK.due("17: earned " + d, x.earned(k, d), y.waker(k, 4));
            }
            y.nights(1);
        }
        CHECK.due("16: nothing changes", x.count(3), 5);
        CHECK.due("16: no acts", x.count(6), 5);
    }

    private static void wrongInputs() {
        WakeLet none = new WakeLet();
        CHECK.due("18: no agency", none.rests(-1), WakeLet.STATE);
        CHECK.due("20: no agency", none.all(-1), WakeLet.STATE);
        CHECK.due("21: no agency", none.never(), WakeLet.STATE);
        CHECK.due("22: no agency", none.best(-1, 9), WakeLet.STATE);
        CHECK.due("23: no agency", none.fewest(-1, -1, 9), WakeLet.STATE);
        CHECK.due("16: no agency", none.weight(0, 0), WakeLet.BAD);
        CHECK.due("17: no agency", none.earned(0, 0), WakeLet.BAD);
        CHECK.due("19: no agency", none.when(0), WakeLet.BAD);
        WakeLet x = Check.open(HOUSE);
        CHECK.due("16: client 4", x.weight(4, 0), WakeLet.BAD);
        CHECK.due("16: client -1", x.weight(-1, 0), WakeLet.BAD);
        CHECK.due("17: waker 4", x.earned(4, 0), WakeLet.BAD);
        CHECK.due("17: waker -1", x.earned(-1, 0), WakeLet.BAD);
        CHECK.due("19: client 4", x.when(4), WakeLet.BAD);
        CHECK.due("19: client -1", x.when(-1), WakeLet.BAD);
        CHECK.due("20: no client 4", x.all(16), WakeLet.BAD);
        CHECK.due("20: -1", x.all(-1), WakeLet.BAD);
        CHECK.due("23: no client 4", x.fewest(16, 0, -1), WakeLet.BAD);
        CHECK.due("23: -1", x.fewest(-1, 0, -1), WakeLet.BAD);
        CHECK.due("22: k -3", x.best(0, -3), WakeLet.BAD);
        CHECK.due("22: k 4", x.best(0, 4), WakeLet.BAD);
        CHECK.due("23: k -2", x.fewest(1, 0, -2), WakeLet.BAD);
        CHECK.due("23: k 4", x.fewest(1, 0, 4), WakeLet.BAD);
        int[] distances = {-1, 61, Integer.MIN_VALUE, Integer.MAX_VALUE};
        for (int d : distances) {
            CHECK.due("16: d " + d, x.weight(0, d), WakeLet.BAD);
            CHECK.due("17: d " + d, x.earned(0, d), WakeLet.BAD);
            CHECK.due("18: d " + d, x.rests(d), WakeLet.BAD);
            CHECK.due("22: d " + d, x.best(d, -1), WakeLet.BAD);
            CHECK.due("23: d " + d, x.fewest(1, d, -1), WakeLet.BAD);
        }
    }

    private static void whens() {
        WakeLet x = Check.open("l0,0;w40,1;w40,1;w0,1;o2,0,0;c2,2,1;");
        CHECK.due("19: 40 nights", x.when(0), 40);
        CHECK.due("19: by the moon later", x.when(1), 56);
        CHECK.due("19: now", x.when(2), 0);
        CHECK.due("20: all", x.all(7), 56);
        CHECK.due("20: two", x.all(5), 40);
        CHECK.due("20: none told", x.all(0), 0);
        CHECK.due("21: nobody", x.never(), 0);
        x.grow(0, 20);
        CHECK.due("19: just 60", x.when(0), 60);
        CHECK.due("21: still nobody", x.never(), 0);
        x.grow(0, 1);
        CHECK.due("19: 61 is too far", x.when(0), WakeLet.NONE);
        CHECK.due("20: too far", x.all(1), WakeLet.NONE);
        CHECK.due("21: he", x.never(), 1);
        notAtOnce();
    }

    /** The first rests only now, the second only later: each rests once, both never at once. */
    private static void notAtOnce() {
        WakeLet x = Check.open("l5,0;w5,1;w9,2;o4,2,1;");
        CHECK.due("19: now", x.when(0), 0);
        CHECK.due("19: then", x.when(1), 1);
        CHECK.due("20: never at once", x.all(3), WakeLet.NONE);
        CHECK.due("21: each once", x.never(), 0);
    }

    private static void bests() {
        WakeLet x = Check.open("l0,0;w9,1;w9,2;w5,3;o9,1,5;o9,2,5;");
        CHECK.due("22: now, all the same", x.best(0, 0), 0);
        CHECK.due("22: now, all the same", x.best(0, 1), 0);
        CHECK.due("22: now, how many", x.best(0, -1), 0);
        CHECK.due("22: now, together", x.best(0, -2), 23);
        CHECK.due("22: behind 1", x.best(1, -1), 2);
        CHECK.due("22: together", x.best(1, -2), 6);
        CHECK.due("22: the first", x.best(1, 0), 0);
        CHECK.due("22: the second", x.best(1, 1), 1);
        CHECK.due("22: no third", x.best(1, 2), WakeLet.NONE);
        CHECK.due("22: no fourth", x.best(1, 3), WakeLet.NONE);
        CHECK.due("22: nothing changes", x.waker(0, 2), 5);
        x.learn(1, 1);
        CHECK.due("22: most rest", x.best(1, -1), 1);
        CHECK.due("22: least together", x.best(1, -2), 11);
        CHECK.due("22: he", x.best(1, 0), 0);
        CHECK.due("22: of several the first", x.best(1, 1), 1);
        mostRestAheadOfLeastWeight();
    }

    /** A mother would take 18 from the heavy worry; but by 9 of hers the light one rests. */
    private static void mostRestAheadOfLeastWeight() {
        WakeLet x = Check.open("l4,0;w8,1;w40,2;m9,2,1;");
        CHECK.due("22: one", x.best(1, -1), 1);
        CHECK.due("22: heavier together", x.best(1, -2), 45);
        CHECK.due("22: to the light one", x.best(1, 0), 0);
    }

    private static void fewests() {
        WakeLet x = Check.open("l5,0;w9,1;w5,2;w0,3;o9,1,0;g9,1,5;m2,0,2;");
        CHECK.due("23: none told", x.fewest(0, 9, -1), 0);
        CHECK.due("23: nobody", x.fewest(0, 9, 0), 5);
        CHECK.due("23: rests now", x.fewest(6, 0, -1), 0);
        CHECK.due("23: not now", x.fewest(1, 0, -1), WakeLet.NONE);
        CHECK.due("23: not now, whom", x.fewest(1, 0, 0), WakeLet.NONE);
        CHECK.due("23: one", x.fewest(1, 1, -1), 1);
        CHECK.due("23: the first", x.fewest(1, 1, 0), 0);
        CHECK.due("23: not the guard", x.fewest(1, 1, 1), 5);
        CHECK.due("23: no fourth", x.fewest(1, 1, 3), WakeLet.NONE);
        CHECK.due("23: two", x.fewest(7, 1, -1), 2);
        CHECK.due("23: the owl", x.fewest(7, 1, 0), 0);
        CHECK.due("23: the guard", x.fewest(7, 1, 1), 1);
        CHECK.due("23: not the mother", x.fewest(7, 1, 2), 5);
        behindJustSoMany();
    }

    /** A guard makes it rest behind 2 nights; behind 3 it has grown again. */
    private static void behindJustSoMany() {
        WakeLet x = Check.open("l0,0;w2,1;g1,1,0;");
        CHECK.due("23: behind 1", x.fewest(1, 1, -1), WakeLet.NONE);
        CHECK.due("23: behind 2", x.fewest(1, 2, -1), 1);
        CHECK.due("23: 0 does not grow", x.fewest(1, 3, -1), 1);
        WakeLet y = Check.open("l1,0;w3,1;g1,1,0;");
        CHECK.due("23: behind 2", y.fewest(1, 2, -1), 1);
        CHECK.due("23: behind just 3", y.fewest(1, 3, -1), WakeLet.NONE);
        CHECK.due("23: behind 4", y.fewest(1, 4, -1), 1);
        oneStandsInForTheOther();
    }

    /** A guard and a clerk lie off in different nights: both are needed for one worry. */
    private static void oneStandsInForTheOther() {
        WakeLet x = Check.open("l0,0;w20,1;g5,1,5;c5,1,5;");
        CHECK.due("23: both", x.fewest(1, 4, -1), 2);
        CHECK.due("23: the guard", x.fewest(1, 4, 0), 0);
        CHECK.due("23: the clerk", x.fewest(1, 4, 1), 0);
        CHECK.due("22: both", x.best(4, -1), 1);
        CHECK.due("22: together", x.best(4, -2), 0);
        CHECK.due("22: the clerk", x.best(4, 1), 0);
        CHECK.due("22: behind 3 least", x.best(3, -2), 5);
    }

    private static void withoutWakers() {
        WakeLet x = Check.open("l5,0;w5,1;w9,1;");
        CHECK.due("22: how many", x.best(0, -1), 1);
        CHECK.due("22: behind 1", x.best(1, -1), 0);
        CHECK.due("22: together", x.best(1, -2), 16);
        CHECK.due("22: no waker", x.best(1, 0), WakeLet.NONE);
        CHECK.due("23: none needed", x.fewest(1, 0, -1), 0);
        CHECK.due("23: no waker", x.fewest(1, 0, 0), WakeLet.NONE);
        CHECK.due("23: by none", x.fewest(1, 1, -1), WakeLet.NONE);
        CHECK.due("21: the second", x.never(), 2);
    }
}
