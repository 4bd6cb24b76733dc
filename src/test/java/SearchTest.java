/** Promises 22 and 23. */
public final class SearchTest extends Sentences {
    private static final int[] TOO_FAR = {-1, 61, MIN, MAX};

    public static void main(String[] args) {
        run(SearchTest.class);
    }

    private static void best(WakeLet x, int d, int resting, int together, int... hirers) {
        due("best, how many rest behind " + d, x.best(d, -1), resting);
        due("best, weights together behind " + d, x.best(d, -2), together);
        for (int k = 0; k <= 3; k++) {
            due("best, waker " + k + " behind " + d, x.best(d, k), k < hirers.length ? hirers[k] : NONE);
        }
    }

    private static void fewest(WakeLet x, int clients, int d, int let, int... hirers) {
        due("fewest for " + clients + " behind " + d, x.fewest(clients, d, -1), let);
        for (int k = 0; k <= 3; k++) {
            due("fewest, waker " + k, x.fewest(clients, d, k), k < hirers.length ? hirers[k] : NONE);
        }
    }

    // ---- 22: best

    static void promise22StateComesAheadOfBad() {
        WakeLet x = new WakeLet();
        due("good", x.best(0, -1), STATE);
        due("d", x.best(-1, -1), STATE);
        due("k", x.best(0, 4), STATE);
        due("both", x.best(61, -3), STATE);
    }

    static void promise22DistancesAre0To60() {
        WakeLet x = open("l0,0;w40,1;o1,1,5;");
        due("0", x.best(0, -2), 40);
        due("1", x.best(1, -2), 39);
        due("39", x.best(39, -1), 0);
        due("60", x.best(60, -1), 1);
        for (int d : TOO_FAR) {
            for (int k = -2; k <= 3; k++) {
                due("d " + d + ", k " + k, x.best(d, k), BAD);
            }
        }
    }

    static void promise22KIsMinus2To3() {
        WakeLet x = open("l0,0;w9,1;o1,1,5;o1,1,5;o1,1,5;o1,1,5;");
        int[] due = {9, 0, 0, 0, 0, 0};
        for (int k = -2; k <= 3; k++) {
            due("k " + k, x.best(0, k), due[k + 2]);
        }
        due("-3", x.best(0, -3), BAD);
        due("4", x.best(0, 4), BAD);
        due("the least", x.best(0, MIN), BAD);
        due("the most", x.best(0, MAX), BAD);
    }

    static void promise22WhereThereIsNoSuchWakerItIsNone() {
        best(open("l5,0;w5,1;w9,1;"), 0, 1, 14);
        best(open("l5,0;w5,1;w9,1;"), 1, 0, 16);
        best(open("l5,0;w5,1;o0,1,5;"), 0, 1, 5, 0);
        best(open("l5,0;w5,1;o0,1,5;o0,1,5;o0,1,5;"), 0, 1, 5, 0, 0, 0);
    }

    static void promise22BehindNoNightAllWaysAreAlikeAndTheFirstIsTold() {
        best(open("l0,0;w9,1;w9,2;w5,3;o9,1,5;o9,2,5;m9,3,2;g1,1,1;"), 0, 0, 23, 0, 0, 0, 0);
    }

    static void promise22MostRest() {
        WakeLet x = open("l0,0;w9,1;w9,2;w5,3;o9,1,5;o9,2,5;");
        best(x, 1, 2, 6, 0, 1);
        x.learn(1, 1);
        best(x, 1, 1, 11, 0, 1);
    }

    /** By her 18 hours the heavy worry would be 22, and all together 31; but by 4 of hers the light one rests. */
    static void promise22MostRestAheadOfLeastWeight() {
        best(open("l4,0;w8,1;w40,2;m9,2,1;"), 1, 1, 45, 0);
    }

    static void promise22OfSuchTheWeightsTogetherAreLeast() {
        best(open("l0,0;w20,1;w20,2;w20,3;o9,3,5;o8,2,5;"), 1, 0, 44, 2, 1);
        best(open("l20,0;w20,1;w20,2;w19,3;o9,2,5;"), 1, 2, 52, 1);
        best(open("l20,0;w20,1;w20,2;w19,3;o9,1,5;"), 1, 2, 52, 0);
    }

    static void promise22OfSeveralTheFirstIsToldWakerByWaker() {
        best(open("l0,0;w9,1;w9,1;o9,1,5;o9,1,5;"), 1, 2, 0, 0, 1);
        best(open("l0,0;w9,1;w9,1;w9,1;o9,1,5;"), 1, 1, 20, 0);
        best(open("l0,0;w9,1;w9,1;o9,1,5;o9,1,5;o9,1,5;o9,1,5;"), 1, 2, 0, 0, 0, 0, 1);
    }

    static void promise22WhoTakesNothingIsLetToTheFirst() {
        best(open("l0,0;w9,1;w9,2;o0,1,5;o9,2,5;o1,5,1;"), 1, 1, 10, 0, 1, 0);
    }

    static void promise22OneStandsInForTheOther() {
        WakeLet x = open("l0,0;w20,1;g5,1,5;c5,1,5;");
        best(x, 4, 1, 0, 0, 0);
        best(x, 3, 0, 5, 0, 0);
    }

    static void promise22ItGoesFromThisNightOn() {
        WakeLet x = open("l0,0;w9,1;w9,2;c9,1,5;g9,2,5;");
        best(x, 1, 1, 10, 0, 1);
        x.nights(2);
        due("grown to 11", x.client(0, 0), 11);
        best(x, 1, 0, 14, 0, 0);
    }

    static void promise22AFiveByFourChoiceIsFound() {
        best(open("l0,0;w9,0;w9,1;w9,2;w9,3;w9,4;o9,4,0;o9,3,0;o9,2,0;o9,1,0;"), 1, 4, 10, 4, 3, 2, 1);
        best(open("l0,0;w9,0;w9,1;w9,2;w9,3;w9,4;o9,4,0;o9,3,0;o9,2,0;o9,1,0;"), 60, 4, 69, 0, 1, 2, 3);
    }

    static void promise22NothingChanges() {
        WakeLet x = open("l0,0;w9,1;w9,2;w5,3;o9,1,5;o9,2,2;");
        x.best(9, -1);
        due("to nobody", x.waker(0, 2), 5);
        due("to the third", x.waker(1, 2), 2);
        due("night", x.count(3), 0);
        due("acts", x.count(6), 0);
        due("weight", x.client(0, 0), 9);
    }

    // ---- 23: fewest

    static void promise23StateComesAheadOfBad() {
        WakeLet x = new WakeLet();
        due("good", x.fewest(0, 0, -1), STATE);
        due("clients", x.fewest(-1, 0, -1), STATE);
        due("d", x.fewest(0, 61, -1), STATE);
        due("k", x.fewest(0, 0, 4), STATE);
    }

    static void promise23ToldClientsAreThoseThereAre() {
        for (int clients = 1; clients <= 5; clients++) {
            WakeLet x = open("l0,0;" + "w0,0;".repeat(clients));
            due("all of " + clients, x.fewest((1 << clients) - 1, 0, -1), 0);
            due("the next of " + clients, x.fewest(1 << clients, 0, -1), BAD);
            due("-1", x.fewest(-1, 0, -1), BAD);
            due("the least", x.fewest(MIN, 0, -1), BAD);
            due("the most", x.fewest(MAX, 0, -1), BAD);
        }
    }

    static void promise23DistancesAre0To60() {
        WakeLet x = open("l0,0;w40,1;o2,0,5;");
        x.grow(0, 20);
        due("0", x.fewest(1, 0, -1), NONE);
        due("59", x.fewest(1, 59, -1), NONE);
        due("60", x.fewest(1, 60, -1), 1);
        for (int d : TOO_FAR) {
            for (int k = -1; k <= 3; k++) {
                due("d " + d + ", k " + k, x.fewest(1, d, k), BAD);
            }
        }
    }

    static void promise23KIsMinus1To3() {
        WakeLet x = open("l9,0;w9,1;o1,1,0;o1,1,0;o1,1,0;o1,1,0;");
        due("-1", x.fewest(1, 0, -1), 0);
        due("0", x.fewest(1, 0, 0), 5);
        due("3", x.fewest(1, 0, 3), 5);
        due("-2", x.fewest(1, 0, -2), BAD);
        due("4", x.fewest(1, 0, 4), BAD);
        due("the least", x.fewest(1, 0, MIN), BAD);
        due("the most", x.fewest(1, 0, MAX), BAD);
    }

    static void promise23BadComesAheadOfNone() {
        WakeLet x = open("l0,0;w9,1;o1,1,0;");
        due("none", x.fewest(1, 0, 0), NONE);
        due("k", x.fewest(1, 0, 4), BAD);
        due("clients", x.fewest(3, 0, 0), BAD);
        due("d", x.fewest(1, 61, 0), BAD);
    }

    static void promise23ForNoneToldNobodyIsLet() {
        fewest(open("l0,0;w9,1;o9,1,0;o9,1,0;"), 0, 9, 0, 5, 5);
        fewest(open("l0,0;w9,1;"), 0, 9, 0);
    }

    static void promise23WhoRestsByHimselfNeedsNobody() {
        WakeLet x = open("l5,0;w9,1;w5,2;w0,3;o9,1,0;g9,1,5;m2,0,2;");
        fewest(x, 6, 0, 0, 5, 5, 5);
        fewest(x, 4, 60, 0, 5, 5, 5);
        fewest(open("l5,0;w5,1;"), 1, 0, 0);
    }

    static void promise23FewestAreLet() {
        WakeLet x = open("l5,0;w9,1;w5,2;w0,3;o9,1,0;g9,1,5;m2,0,2;");
        fewest(x, 1, 1, 1, 0, 5, 5);
        fewest(x, 7, 1, 2, 0, 1, 5);
        fewest(open("l0,0;w8,1;o4,1,5;o4,1,5;m4,1,5;"), 1, 1, 1, 5, 5, 0);
        fewest(open("l0,0;w9,0;w9,1;w9,2;w9,3;o9,3,5;o9,2,5;o9,1,5;o9,0,5;"), 15, 1, 4, 3, 2, 1, 0);
    }

    static void promise23OfSeveralTheFirstIsTold() {
        fewest(open("l0,0;w9,1;o9,1,5;o9,1,0;"), 1, 1, 1, 0, 5);
        fewest(open("l0,0;w9,1;w9,1;o9,1,5;o9,1,5;o9,1,5;"), 2, 1, 1, 1, 5, 5);
        fewest(open("l0,0;w9,1;w9,1;o9,1,5;o9,1,5;o9,1,5;"), 3, 1, 2, 0, 1, 5);
    }

    static void promise23TwoAreLetToOneWhereOneIsTooFew() {
        fewest(open("l0,0;w20,1;g5,1,5;c5,1,5;"), 1, 4, 2, 0, 0);
        fewest(open("l0,0;w20,1;g5,1,5;c5,1,5;"), 1, 3, NONE);
    }

    static void promise23ByNoneItIsNone() {
        fewest(open("l0,0;w9,1;w9,2;o9,1,5;"), 3, 1, NONE);
        fewest(open("l0,0;w9,1;w9,2;"), 1, 60, NONE);
        fewest(open("l0,0;w9,1;o9,1,0;o9,1,0;o9,1,0;o9,1,0;"), 1, 0, NONE);
    }

    /** By a guard a worry of 3 goes 2, 1, 2, 1, 0. */
    static void promise23BehindJustSoManyNights() {
        WakeLet x = open("l1,0;w3,1;g1,1,0;");
        fewest(x, 1, 1, NONE);
        fewest(x, 1, 2, 1, 0);
        fewest(x, 1, 3, NONE);
        fewest(x, 1, 4, 1, 0);
    }

    static void promise23OthersNeedNotRest() {
        fewest(open("l5,0;w5,1;w14,1;o9,1,0;"), 2, 1, 1, 1);
        fewest(open("l5,0;w5,1;w14,1;o9,1,0;"), 3, 1, NONE);
    }

    static void promise23NothingChanges() {
        WakeLet x = open("l0,0;w9,1;w9,2;w5,3;o9,1,5;o9,2,2;");
        x.fewest(1, 9, -1);
        due("to nobody", x.waker(0, 2), 5);
        due("to the third", x.waker(1, 2), 2);
        due("night", x.count(3), 0);
        due("acts", x.count(6), 0);
    }
}
