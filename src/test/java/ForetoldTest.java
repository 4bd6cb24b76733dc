/** Promises 16 to 21. */
public final class ForetoldTest extends Sentences {
    private static final String HOUSE = "l8,3;w20,1;w15,2;w9,0;w30,4;o5,1,0;c6,2,0;m4,4,3;n3,0,1;";
    /** Distances that are none. */
    private static final int[] TOO_FAR = {-1, 61, MIN, MAX};

    public static void main(String[] args) {
        run(ForetoldTest.class);
    }

    /** An object whose night has come to be d from that of HOUSE's fifth. */
    private static WakeLet later(int d) {
        WakeLet x = open(HOUSE);
        passNights(x, 5 + d);
        return x;
    }

    // ---- 16: weight

    static void promise16ClientsAreThoseThereAre() {
        WakeLet x = open("l8,3;w20,1;w15,2;");
        due("-1", x.weight(-1, 0), BAD);
        due("0", x.weight(0, 0), 20);
        due("1", x.weight(1, 0), 15);
        due("2", x.weight(2, 0), BAD);
        due("the least", x.weight(MIN, 0), BAD);
        due("the most", x.weight(MAX, 0), BAD);
        due("no agency", new WakeLet().weight(0, 0), BAD);
    }

    static void promise16DistancesAre0To60() {
        WakeLet x = open("l8,3;w20,1;o1,1,0;");
        due("0", x.weight(0, 0), 20);
        due("1", x.weight(0, 1), 19);
        due("60", x.weight(0, 60), 0);
        for (int d : TOO_FAR) {
            due("d " + d, x.weight(0, d), BAD);
        }
    }

    static void promise16ItIsAsTheNightsBringIt() {
        WakeLet x = later(0);
        for (int d = 0; d <= 60; d++) {
            WakeLet y = later(d);
            for (int c = 0; c <= 3; c++) {
                due("client " + c + " behind " + d, x.weight(c, d), y.client(c, 0));
            }
        }
    }

    static void promise16NothingChanges() {
        WakeLet x = later(0);
        x.weight(0, 60);
        due("night", x.count(3), 5);
        due("acts", x.count(6), 5);
        due("earned", x.count(5), later(0).count(5));
        due("weight", x.client(2, 0), 14);
    }

    static void promise16ItGoesOnBehindNight999() {
        WakeLet x = open("l8,3;w20,1;w40,0;o1,1,0;");
        passNights(x, 999);
        due("taken", x.weight(0, 60), 0);
        due("grown", x.weight(1, 60), 99);
        due("still 999", x.count(3), 999);
    }

    static void promise16ItIs99AtMostAnd0AtLeast() {
        WakeLet x = open("l8,3;w40,1;w9,1;w0,1;o9,1,1;");
        due("behind 58", x.weight(0, 58), 98);
        due("behind 59", x.weight(0, 59), 99);
        due("behind 60", x.weight(0, 60), 99);
        due("behind 1", x.weight(1, 1), 0);
        due("behind 2", x.weight(1, 2), 0);
        due("0 stays", x.weight(2, 60), 0);
    }

    // ---- 17: earned

    static void promise17WakersAreThoseThereAre() {
        WakeLet x = open("l8,3;w20,1;o5,1,0;o6,1,0;");
        due("-1", x.earned(-1, 0), BAD);
        due("0", x.earned(0, 1), 5);
        due("1", x.earned(1, 1), 6);
        due("2", x.earned(2, 0), BAD);
        due("the least", x.earned(MIN, 0), BAD);
        due("the most", x.earned(MAX, 0), BAD);
        due("no agency", new WakeLet().earned(0, 0), BAD);
        due("no wakers", open("l8,3;w20,1;").earned(0, 0), BAD);
    }

    static void promise17DistancesAre0To60() {
        WakeLet x = open("l8,3;w20,1;m9,1,0;");
        due("0", x.earned(0, 0), 0);
        due("60", x.earned(0, 60), 1080);
        for (int d : TOO_FAR) {
            due("d " + d, x.earned(0, d), BAD);
        }
        due("nothing changes", x.waker(0, 4), 0);
    }

    static void promise17ItIsAsTheNightsBringIt() {
        WakeLet x = later(0);
        for (int d = 0; d <= 60; d++) {
            WakeLet y = later(d);
            for (int w = 0; w <= 3; w++) {
                due("waker " + w + " behind " + d, x.earned(w, d), y.waker(w, 4));
            }
        }
    }

    static void promise17WhatWasEarnedBeforeCounts() {
        WakeLet x = open("l8,3;w20,1;o9,1,0;o9,1,5;");
        passNights(x, 999);
        due("now", x.earned(0, 0), 999 * 9);
        due("behind 60", x.earned(0, 60), 1059 * 9);
        due("let to nobody", x.earned(1, 60), 0);
    }

    // ---- 18: rests

    static void promise18StateComesAheadOfBad() {
        WakeLet x = new WakeLet();
        due("0", x.rests(0), STATE);
        due("-1", x.rests(-1), STATE);
        due("61", x.rests(61), STATE);
    }

    static void promise18DistancesAre0To60() {
        WakeLet x = open("l0,3;w0,1;w6,1;o9,1,1;");
        due("0", x.rests(0), 1);
        due("1", x.rests(1), 3);
        due("60", x.rests(60), 3);
        for (int d : TOO_FAR) {
            due("d " + d, x.rests(d), BAD);
        }
        due("nothing changes", x.count(4), 1);
    }

    static void promise18ItIsAsTheNightsBringIt() {
        WakeLet x = later(0);
        for (int d = 0; d <= 60; d++) {
            due("behind " + d, x.rests(d), later(d).count(4));
        }
    }

    // ---- 19: when

    static void promise19ClientsAreThoseThereAre() {
        WakeLet x = open("l8,3;w8,1;w15,2;");
        due("-1", x.when(-1), BAD);
        due("0", x.when(0), 0);
        due("1", x.when(1), NONE);
        due("2", x.when(2), BAD);
        due("the least", x.when(MIN), BAD);
        due("the most", x.when(MAX), BAD);
        due("no agency", new WakeLet().when(0), BAD);
    }

    static void promise19NowIs0() {
        WakeLet x = open("l8,3;w8,1;w9,1;o1,1,1;");
        due("now, though not later", x.when(0), 0);
        due("behind 1", x.when(1), 1);
    }

    static void promise19ItIsAtMost60() {
        WakeLet x = open("l0,0;w40,1;o2,0,0;");
        due("40", x.when(0), 40);
        x.grow(0, 19);
        due("59", x.when(0), 59);
        x.grow(0, 1);
        due("60", x.when(0), 60);
        x.grow(0, 1);
        due("61 is none", x.when(0), NONE);
        due("nothing changes", x.count(3), 0);
    }

    /** By a guard a worry of 3 goes 2, 1, 2, 1, 0. */
    static void promise19ItIsTheFirstOfSeveral() {
        WakeLet x = open("l1,0;w3,1;g1,1,0;");
        due("behind 2", x.when(0), 2);
        due("not behind 3", x.rests(3), 0);
        due("behind 4", x.rests(4), 1);
    }

    // ---- 20: all

    static void promise20StateComesAheadOfBad() {
        WakeLet x = new WakeLet();
        due("0", x.all(0), STATE);
        due("-1", x.all(-1), STATE);
        due("32", x.all(32), STATE);
    }

    static void promise20ToldClientsAreThoseThereAre() {
        for (int clients = 1; clients <= 5; clients++) {
            WakeLet x = open("l0,0;" + "w0,0;".repeat(clients));
            due("all of " + clients, x.all((1 << clients) - 1), 0);
            due("the next of " + clients, x.all(1 << clients), BAD);
            due("all and the next", x.all((1 << clients + 1) - 1), BAD);
            due("-1", x.all(-1), BAD);
            due("the least", x.all(MIN), BAD);
            due("the most", x.all(MAX), BAD);
        }
    }

    static void promise20NoneToldRestNow() {
        due("0", open("l0,0;w9,0;").all(0), 0);
    }

    static void promise20ItIsAtMost60() {
        WakeLet x = open("l0,0;w40,1;w40,1;o2,0,0;o9,1,1;");
        x.grow(0, 20);
        due("60", x.all(1), 60);
        due("both at 60", x.all(3), 60);
        x.grow(0, 1);
        due("61 is none", x.all(1), NONE);
        due("both", x.all(3), NONE);
        due("the other", x.all(2), 5);
    }

    static void promise20TheyRestAtOnce() {
        WakeLet x = open("l5,0;w5,1;w9,2;o4,2,1;");
        due("the first now", x.all(1), 0);
        due("the second then", x.all(2), 1);
        due("never at once", x.all(3), NONE);
    }

    /** By turns the first rests behind 2, 4, 5 nights, the second behind 3 and all later ones. */
    static void promise20ItIsTheFirstTimeAtOnce() {
        WakeLet x = open("l1,0;w3,1;w9,1;g1,1,0;o3,1,1;");
        due("the first", x.all(1), 2);
        due("the second", x.all(2), 3);
        due("both", x.all(3), 4);
    }

    // ---- 21: never

    static void promise21WithoutAnAgencyItIsState() {
        WakeLet x = new WakeLet();
        due("new", x.never(), STATE);
        read(x, "l");
        due("behind a fault", x.never(), STATE);
    }

    static void promise21NobodyAndEverybody() {
        due("nobody", open("l0,0;w0,0;w0,0;w0,0;w0,0;w0,0;").never(), 0);
        due("everybody", open("l0,0;w1,0;w1,0;w1,0;w1,0;w1,0;").never(), 31);
        due("one alone", open("l0,0;w1,0;").never(), 1);
    }

    static void promise21WhoRestsOnlyNowRests() {
        WakeLet x = open("l5,0;w5,0;w6,0;");
        due("not the first", x.never(), 2);
        due("he rests no more", x.rests(1), 0);
    }

    static void promise21WhoRestsBehind60RestsBehind61DoesNot() {
        WakeLet x = open("l0,0;w40,1;o2,0,0;");
        x.grow(0, 20);
        due("60", x.never(), 0);
        x.grow(0, 1);
        due("61", x.never(), 1);
        due("nothing changes", x.count(3), 0);
    }
}
