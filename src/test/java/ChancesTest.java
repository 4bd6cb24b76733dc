import java.math.BigInteger;

/** Promises 25 and 26. */
public final class ChancesTest extends Sentences {
    public static void main(String[] args) {
        run(ChancesTest.class);
    }

    private static void fraction(WakeLet x, int m, int c, int above, int below) {
        due("above of " + m + ", " + c, x.nods(m, c, 0), above);
        due("below of " + m + ", " + c, x.nods(m, c, 1), below);
    }

    // ---- 25: nods

    static void promise25StateComesAheadOfBad() {
        WakeLet x = new WakeLet();
        due("good", x.nods(0, 0, 0), STATE);
        due("m", x.nods(6, 0, 0), STATE);
        due("c", x.nods(0, 11, 0), STATE);
        due("what", x.nods(0, 0, 2), STATE);
    }

    static void promise25MIs0To5() {
        WakeLet x = open("l0,0;w0,0;w0,0;w0,0;w0,0;w0,0;");
        due("-1", x.nods(-1, 0, 0), BAD);
        due("0", x.nods(0, 0, 0), 1);
        due("5", x.nods(5, 0, 0), 1);
        due("6", x.nods(6, 0, 0), BAD);
        due("the least", x.nods(MIN, 0, 0), BAD);
        due("the most", x.nods(MAX, 0, 0), BAD);
    }

    static void promise25CIs0To10() {
        WakeLet x = open("l0,0;w9,0;o9,0,0;");
        due("-1", x.nods(1, -1, 0), BAD);
        fraction(x, 1, 0, 1, 1);
        fraction(x, 1, 1, 9, 10);
        fraction(x, 1, 9, 1, 10);
        fraction(x, 1, 10, 0, 1);
        due("11", x.nods(1, 11, 0), BAD);
        due("the least", x.nods(1, MIN, 0), BAD);
        due("the most", x.nods(1, MAX, 0), BAD);
    }

    static void promise25WhatIs0Or1() {
        WakeLet x = open("l0,0;w9,0;o9,0,0;");
        due("-1", x.nods(1, 3, -1), BAD);
        due("0", x.nods(1, 3, 0), 7);
        due("1", x.nods(1, 3, 1), 10);
        due("2", x.nods(1, 3, 2), BAD);
        due("the least", x.nods(1, 3, MIN), BAD);
        due("the most", x.nods(1, 3, MAX), BAD);
    }

    static void promise25AFractionIsInLowestTerms() {
        WakeLet x = open("l0,0;w9,0;o9,0,0;");
        int[] above = {1, 9, 4, 7, 3, 1, 2, 3, 1, 1, 0};
        int[] below = {1, 10, 5, 10, 5, 2, 5, 10, 5, 10, 1};
        for (int c = 0; c <= 10; c++) {
            fraction(x, 1, c, above[c], below[c]);
        }
        WakeLet y = open("l0,6;w1,1;w1,2;w1,3;w1,4;o2,0,0;o2,0,1;o2,0,2;o2,0,3;");
        fraction(y, 4, 1, 6561, 10000);
        fraction(y, 4, 9, 1, 10000);
        fraction(y, 1, 9, 3439, 10000);
        fraction(y, 4, 4, 81, 625);
        fraction(y, 4, 5, 1, 16);
        fraction(y, 2, 5, 11, 16);
    }

    static void promise25NothingIs0By1AndSureIs1By1() {
        WakeLet x = open("l5,6;w9,1;w9,1;o4,1,0;o9,1,0;m2,1,1;g9,2,5;");
        fraction(x, 0, 3, 1, 1);
        fraction(x, 0, 10, 1, 1);
        fraction(x, 2, 0, 1, 1);
        fraction(x, 2, 10, 0, 1);
        fraction(x, 3, 3, 0, 1);
        fraction(x, 5, 0, 0, 1);
    }

    static void promise25MoreThanThereAreNeverRest() {
        WakeLet x = open("l20,6;w0,1;w0,1;");
        fraction(x, 2, 5, 1, 1);
        fraction(x, 3, 5, 0, 1);
        fraction(x, 5, 5, 0, 1);
    }

    static void promise25WithoutWakersItIsSureOrNot() {
        WakeLet x = open("l5,6;w5,1;w0,1;");
        for (int c = 0; c <= 10; c++) {
            fraction(x, 1, c, 1, 1);
            fraction(x, 2, c, 0, 1);
        }
    }

    static void promise25EachNodsByHimself() {
        WakeLet x = open("l5,6;w9,1;w9,1;o4,1,0;o9,1,0;m2,1,1;g9,2,5;");
        fraction(x, 1, 3, 973, 1000);
        fraction(x, 2, 3, 637, 1000);
        fraction(x, 2, 5, 3, 8);
    }

    static void promise25AnotherTakesIfHeNodsWhoTakesMost() {
        WakeLet x = open("l5,6;w9,1;o4,1,0;o3,1,0;");
        fraction(x, 1, 2, 4, 5);
        WakeLet y = open("l5,6;w9,1;o4,1,0;o4,1,0;");
        fraction(y, 1, 2, 24, 25);
    }

    static void promise25AWorryNobodyLiesForIsHeavier() {
        WakeLet x = open("l5,6;w5,1;o1,1,0;");
        fraction(x, 1, 3, 7, 10);
        WakeLet y = open("l5,6;w0,1;o1,1,0;");
        fraction(y, 1, 3, 1, 1);
    }

    static void promise25ItIsThisNight() {
        WakeLet x = open("l5,1;w9,1;c9,1,0;");
        fraction(x, 1, 3, 7, 10);
        x.grow(0, 20);
        x.nights(1);
        due("20 now", x.client(0, 0), 20);
        fraction(x, 1, 3, 0, 1);
        x.nights(1);
        due("21 by the moon", x.client(0, 0), 21);
        x.nights(1);
        due("12", x.client(0, 0), 12);
        fraction(x, 1, 3, 7, 10);
    }

    static void promise25NothingChanges() {
        WakeLet x = open("l5,1;w9,1;c9,1,0;");
        x.nods(1, 10, 0);
        due("night", x.count(3), 0);
        due("earned", x.count(5), 0);
        due("acts", x.count(6), 0);
        due("weight", x.client(0, 0), 9);
    }

    // ---- 26: drawn

    static void promise26StateComesAheadOfBad() {
        WakeLet x = new WakeLet();
        due("good", x.drawn(0, 1, 0), STATE);
        due("n", x.drawn(61, 1, 0), STATE);
        due("seed", x.drawn(0, 0, 0), STATE);
        due("what", x.drawn(0, 1, 2), STATE);
    }

    static void promise26NightsAre0To60() {
        WakeLet x = open("l20,6;w0,1;o9,1,0;");
        due("-1", x.drawn(-1, 1, 0), BAD);
        due("0", x.drawn(0, 1, 0), 0);
        due("1", x.drawn(1, 1, 0), 1);
        due("60", x.drawn(60, 1, 0), 60);
        due("61", x.drawn(61, 1, 0), BAD);
        due("the least", x.drawn(MIN, 1, 0), BAD);
        due("the most", x.drawn(MAX, 1, 0), BAD);
    }

    static void promise26SeedsAre1To999999() {
        WakeLet x = open("l20,6;w0,1;");
        due("-1", x.drawn(1, -1, 1), BAD);
        due("0", x.drawn(1, 0, 1), BAD);
        due("1: 16807 leaves 2 by 5", x.drawn(1, 1, 1), 3);
        due("999999: 1774597664 leaves 4 by 5", x.drawn(1, 999999, 1), 5);
        due("1000000", x.drawn(1, 1000000, 1), BAD);
        due("the least", x.drawn(1, MIN, 1), BAD);
        due("the most", x.drawn(1, MAX, 1), BAD);
    }

    static void promise26WhatIs0Or1() {
        WakeLet x = open("l20,6;w7,1;w0,1;");
        due("-1", x.drawn(0, 1, -1), BAD);
        due("0", x.drawn(0, 1, 0), 0);
        due("1", x.drawn(0, 1, 1), 7);
        due("2", x.drawn(0, 1, 2), BAD);
        due("the least", x.drawn(0, 1, MIN), BAD);
        due("the most", x.drawn(0, 1, MAX), BAD);
    }

    static void promise26OfNoNightNobodyRestedAndWeightsAreAsNow() {
        WakeLet x = open("l20,6;w1,1;w2,1;w3,1;w4,1;w5,1;");
        due("how often", x.drawn(0, 999999, 0), 0);
        due("weights", x.drawn(0, 999999, 1), 15);
    }

    /** 16807 is odd, and leaves 2 by 5; so is 282475249, and leaves 4: the second worry goes 2, 3; 7, 8. */
    static void promise26TheDrawnWorryIsHeavierAheadOfTheNight() {
        WakeLet x = open("l5,6;w9,1;w0,2;o4,1,0;");
        due("one night, two rest", x.drawn(1, 1, 0), 2);
        due("one night, weights", x.drawn(1, 1, 1), 8);
        due("two nights, one more", x.drawn(2, 1, 0), 3);
        due("two nights, weights", x.drawn(2, 1, 1), 9);
    }

    static void promise26EachWhoRestsCounts() {
        WakeLet x = open("l20,6;w0,1;w0,1;w0,1;w0,1;w0,1;o9,1,0;");
        due("all five", x.drawn(1, 1, 0), 5);
        WakeLet y = open("l0,6;w40,1;w40,1;");
        due("nobody", y.drawn(60, 1, 0), 0);
    }

    /** Without wakers: how a draw goes on by numbers without a bound. */
    private static void draws(int clients, int seed) {
        int[] weights = new int[clients];
        BigInteger x = BigInteger.valueOf(seed);
        WakeLet y = open("l9,6;" + "w0,1;".repeat(clients));
        int rested = 0;
        for (int n = 1; n <= 60; n++) {
            x = x.multiply(BigInteger.valueOf(16807)).mod(BigInteger.valueOf(2147483647));
            int drawn = x.mod(BigInteger.valueOf(clients)).intValue();
            weights[drawn] = Math.min(99, weights[drawn] + x.mod(BigInteger.valueOf(5)).intValue());
            int sum = 0;
            for (int c = 0; c < clients; c++) {
                weights[c] = weights[c] == 0 ? 0 : Math.min(99, weights[c] + 1);
                sum += weights[c];
                rested += weights[c] <= 9 ? 1 : 0;
            }
            due(clients + " by " + seed + ", rested in " + n, y.drawn(n, seed, 0), rested);
            due(clients + " by " + seed + ", weights behind " + n, y.drawn(n, seed, 1), sum);
        }
    }

    static void promise26DrawsGoOnByTheRestOfALargeNumber() {
        for (int clients = 1; clients <= 5; clients++) {
            draws(clients, 1);
            draws(clients, 127773);
            draws(clients, 127774);
            draws(clients, 999999);
        }
    }

    static void promise26AWeightIs99AtMost() {
        WakeLet x = open("l0,6;w40,1;");
        due("one", x.drawn(60, 999999, 1), 99);
        WakeLet y = open("l0,6;w40,1;w40,1;w40,1;w40,1;w40,1;");
        for (int k = 0; k < 2; k++) {
            passNights(y, 24);
        }
        due("five", y.drawn(60, 7, 1), 495);
    }

    /** A worry of 98 that is heavier by 4 is 99 ahead of the night, in which the owl takes 9 of it. */
    static void promise26AWeightIs99AtMostAheadOfTheNightToo() {
        WakeLet x = open("l0,6;w40,1;o9,1,0;");
        x.grow(0, 20);
        x.grow(0, 20);
        x.grow(0, 18);
        due("98", x.client(0, 0), 98);
        int seed = 1;
        while (seed * 16807L % 2147483647 % 5 != 4) {
            seed++;
        }
        due("99 less 9", x.drawn(1, seed, 1), 90);
    }

    static void promise26ItGoesFromThisNightOn() {
        WakeLet x = open("l0,1;w40,1;c9,1,0;");
        due("a clerk lies: 40, 42, 33", x.drawn(1, 1, 1), 33);
        x.nights(1);
        due("he does not by the moon: 31, 33, 34", x.drawn(1, 1, 1), 34);
    }

    static void promise26NothingChanges() {
        WakeLet x = open("l5,6;w9,1;w0,2;o4,1,0;");
        x.drawn(60, 1, 0);
        due("weight", x.client(0, 0), 9);
        due("the other", x.client(1, 0), 0);
        due("night", x.count(3), 0);
        due("earned", x.count(5), 0);
        due("acts", x.count(6), 0);
        due("the same again", x.drawn(2, 1, 1), 9);
    }
}
