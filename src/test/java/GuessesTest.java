import java.util.Arrays;
import java.util.function.IntFunction;

/** Promise 24. */
public final class GuessesTest extends Sentences {
    private static final int LAIN = 0, SORTS = 1, FITTING = 2;

    public static void main(String[] args) {
        run(GuessesTest.class);
    }

    /** Who rests behind each of n nights from t on, if the agency is told so. */
    private static int[] seen(String text, int t, int n) {
        WakeLet x = open(text);
        passNights(x, t);
        int[] lit = new int[n];
        for (int k = 0; k < n; k++) {
            lit[k] = x.nights(1);
        }
        return lit;
    }

    /** Each guess is put into a text of its own; by those that look alike it is so. */
    private static void guessed(int what, int least, int most, int n, IntFunction<String> text) {
        for (int truth = least; truth <= most; truth++) {
            int[] lit = seen(text.apply(truth), 0, n);
            int due = 0;
            for (int guess = least; guess <= most; guess++) {
                due |= Arrays.equals(lit, seen(text.apply(guess), 0, n)) ? 1 << guess : 0;
            }
            for (int told = least; told <= most; told++) {
                WakeLet x = open(text.apply(told));
                fill(x, 0, 0, lit);
                due(what + ": " + text.apply(truth) + " from " + told, x.fits(0, 0, 0, n, what), due);
            }
        }
    }

    // ---- refusals and findings

    static void promise24WakersAreThoseThereAre() {
        WakeLet x = open("l0,1;w8,1;o4,1,0;o4,1,5;");
        x.row(0, 0, 1);
        due("-1", x.fits(-1, 0, 0, 1, 0), BAD);
        due("0", x.fits(0, 0, 0, 1, 0), 33);
        due("1", x.fits(1, 0, 0, 1, 0), 33);
        due("2", x.fits(2, 0, 0, 1, 0), BAD);
        due("the least", x.fits(MIN, 0, 0, 1, 0), BAD);
        due("the most", x.fits(MAX, 0, 0, 1, 0), BAD);
        WakeLet y = new WakeLet();
        y.row(0, 0, 1);
        due("no agency", y.fits(0, 0, 0, 1, 0), BAD);
        WakeLet z = open("l0,1;w8,1;");
        z.row(0, 0, 1);
        due("no wakers", z.fits(0, 0, 0, 1, 0), BAD);
    }

    static void promise24RowsAre0To7() {
        WakeLet x = open("l0,1;w8,1;o4,1,0;");
        x.row(0, 0, 1);
        x.row(7, 0, 1);
        due("-1", x.fits(0, -1, 0, 1, 0), BAD);
        due("0", x.fits(0, 0, 0, 1, 0), 33);
        due("7", x.fits(0, 7, 0, 1, 0), 33);
        due("8", x.fits(0, 8, 0, 1, 0), BAD);
        due("the least", x.fits(0, MIN, 0, 1, 0), BAD);
        due("the most", x.fits(0, MAX, 0, 1, 0), BAD);
    }

    static void promise24NightsAre1To16() {
        WakeLet x = open("l0,1;w8,1;o0,1,0;");
        x.row(0, 0, 40);
        due("-1", x.fits(0, 0, 0, -1, 0), BAD);
        due("0", x.fits(0, 0, 0, 0, 0), BAD);
        due("1", x.fits(0, 0, 0, 1, 0), 33);
        due("16", x.fits(0, 0, 0, 16, 0), 33);
        due("17", x.fits(0, 0, 0, 17, 0), BAD);
        due("the least", x.fits(0, 0, 0, MIN, 0), BAD);
        due("the most", x.fits(0, 0, 0, MAX, 0), BAD);
    }

    static void promise24WhatIs0To2() {
        WakeLet x = open("l0,1;w40,1;o0,1,0;");
        x.row(0, 0, 1);
        due("-1", x.fits(0, 0, 0, 1, -1), BAD);
        due("0", x.fits(0, 0, 0, 1, 0), 33);
        due("1", x.fits(0, 0, 0, 1, 1), 62);
        due("2", x.fits(0, 0, 0, 1, 2), 63);
        due("3", x.fits(0, 0, 0, 1, 3), BAD);
        due("the least", x.fits(0, 0, 0, 1, MIN), BAD);
        due("the most", x.fits(0, 0, 0, 1, MAX), BAD);
    }

    static void promise24BadComesAheadOfNullAndPlace() {
        WakeLet x = open("l0,1;w8,1;o4,1,0;");
        due("waker, missing row", x.fits(1, 3, 0, 1, 0), BAD);
        due("n 0, missing row", x.fits(0, 3, 0, 0, 0), BAD);
        due("n 17, missing row", x.fits(0, 3, 0, 17, 0), BAD);
        due("what, missing row", x.fits(0, 3, 0, 1, 3), BAD);
        x.row(3, 0, 5);
        due("n 17, no place", x.fits(0, 3, -1, 17, 0), BAD);
        due("n 0, no place", x.fits(0, 3, 6, 0, 0), BAD);
        due("no finding", x.status(), 0);
    }

    static void promise24AMissingRowIsNullAheadOfPlace() {
        WakeLet x = open("l0,1;w8,1;o4,1,0;");
        due("0", x.fits(0, 3, 0, 1, 0), NULL);
        due("-1", x.fits(0, 3, -1, 1, 0), NULL);
        due("status", x.status(), 1);
    }

    static void promise24PlacesAreThoseOfTheRow() {
        WakeLet x = open("l0,1;w40,1;o0,1,0;");
        x.row(0, 0, 18);
        due("-1", x.fits(0, 0, -1, 1, 0), PLACE);
        due("status", x.status(), 2);
        due("0", x.fits(0, 0, 0, 1, 0), 33);
        due("17, one", x.fits(0, 0, 17, 1, 0), 33);
        due("18, one", x.fits(0, 0, 18, 1, 0), PLACE);
        due("2, sixteen", x.fits(0, 0, 2, 16, 0), 33);
        due("3, sixteen", x.fits(0, 0, 3, 16, 0), PLACE);
        due("the least", x.fits(0, 0, MIN, 1, 0), PLACE);
        due("the most", x.fits(0, 0, MAX, 16, 0), PLACE);
        x.row(0, 0, 16);
        due("a row of just 16", x.fits(0, 0, 0, 16, 0), 33);
        x.row(0, 0, 15);
        due("a row of 15", x.fits(0, 0, 0, 16, 0), PLACE);
        x.row(0, 0, 0);
        due("an empty row", x.fits(0, 0, 0, 1, 0), PLACE);
    }

    // ---- by which it is so

    static void promise24LainToldByEachClientAndNobody() {
        WakeLet x = open(READER);
        fill(x, 0, 0, 1, 2, 4, 8, 16, 0);
        for (int k = 0; k <= 5; k++) {
            due("let to " + k, x.fits(0, 0, k, 1, LAIN), 1 << k);
        }
    }

    static void promise24LainOnlyClientsThereAre() {
        for (int clients = 1; clients <= 5; clients++) {
            WakeLet x = open("l0,1;" + "w8,1;".repeat(clients) + "o0,1,0;");
            x.row(0, 0, 1);
            due("of " + clients, x.fits(0, 0, 0, 1, LAIN), 32 | (1 << clients) - 1);
        }
    }

    static void promise24LainIsAsIfToldSo() {
        String text = "l4,1;w20,1;w12,2;w9,1;w30,0;w5,3;m3,1,%d;o2,2,1;";
        guessed(LAIN, 0, 5, 16, of -> String.format(text, of));
        guessed(LAIN, 0, 5, 1, of -> String.format(text, of));
    }

    static void promise24SortsAreKinds1To5() {
        String text = "l2,3;w40,1;w3,2;%c4,1,0;";
        guessed(SORTS, 1, 5, 16, kind -> String.format(text, " ocmgn".charAt(kind)));
        guessed(SORTS, 1, 5, 6, kind -> String.format(text, " ocmgn".charAt(kind)));
        guessed(SORTS, 1, 5, 1, kind -> String.format(text, " ocmgn".charAt(kind)));
    }

    static void promise24FittingIsWorries0To5() {
        for (int worry = 0; worry <= 5; worry++) {
            String text = "l2,3;w40," + worry + ";w3,2;m4,%d,0;";
            guessed(FITTING, 0, 5, 16, fits -> String.format(text, fits));
        }
    }

    static void promise24EachSortCanBeTheOnlyOne() {
        String text = "l20,1;w39,1;%c4,1,0;";
        int[] lit = seen(String.format(text, 'm'), 0, 8);
        WakeLet x = open(String.format(text, 'o'));
        fill(x, 0, 0, lit);
        due("a mother", x.fits(0, 0, 0, 8, SORTS), 1 << 3);
        fill(x, 0, 0, seen(String.format(text, 'c'), 0, 8));
        due("a clerk", x.fits(0, 0, 0, 8, SORTS), 1 << 2);
        fill(x, 0, 0, seen(String.format(text, 'o'), 0, 8));
        due("an owl", x.fits(0, 0, 0, 8, SORTS) & 1 << 1, 1 << 1);
    }

    static void promise24ByNoneItIs0() {
        WakeLet x = open("l0,1;w40,1;o4,1,0;");
        fill(x, 0, 0, 1);
        for (int what = 0; what <= 2; what++) {
            due("what " + what, x.fits(0, 0, 0, 1, what), 0);
        }
        due("no finding", x.status(), 0);
    }

    static void promise24AllBitsOfAnItemCount() {
        WakeLet x = open("l9,1;w0,1;w0,1;w0,1;w0,1;w0,1;o4,1,0;");
        fill(x, 0, 0, 31, 63, -1, 30);
        due("31", x.fits(0, 0, 0, 1, LAIN), 63);
        due("63", x.fits(0, 0, 1, 1, LAIN), 0);
        due("-1", x.fits(0, 0, 2, 1, LAIN), 0);
        due("30", x.fits(0, 0, 3, 1, LAIN), 0);
        fill(x, 1, 1, 31, 256 + 31, -32768 + 31);
        due("a short of 31", x.fits(0, 1, 0, 1, LAIN), 63);
        due("a short of more", x.fits(0, 1, 1, 1, LAIN), 0);
        due("a short below 0", x.fits(0, 1, 2, 1, LAIN), 0);
        fill(x, 2, 2, 31, 65536 + 31, MIN + 31);
        due("an int of 31", x.fits(0, 2, 0, 1, LAIN), 63);
        due("an int of more", x.fits(0, 2, 1, 1, LAIN), 0);
        due("an int below 0", x.fits(0, 2, 2, 1, LAIN), 0);
    }

    static void promise24EachOfTheNightsCounts() {
        WakeLet x = open("l9,1;w0,1;o4,1,0;");
        for (int dark = 0; dark < 16; dark++) {
            int[] lit = new int[16];
            Arrays.fill(lit, 1);
            lit[dark] = 0;
            fill(x, 0, 0, lit);
            due("dark at " + dark, x.fits(0, 0, 0, 16, LAIN), 0);
        }
        int[] lit = new int[17];
        Arrays.fill(lit, 0, 16, 1);
        fill(x, 0, 0, lit);
        due("dark behind them", x.fits(0, 0, 0, 16, LAIN), 33);
        due("not from the next on", x.fits(0, 0, 1, 16, LAIN), 0);
    }

    static void promise24TheFirstItemIsBehindTheNextNight() {
        WakeLet x = open("l5,1;w5,1;o0,1,0;");
        fill(x, 0, 0, 1, 0);
        due("he rests now", x.count(4), 1);
        due("as now", x.fits(0, 0, 0, 1, LAIN), 0);
        due("as behind the next", x.fits(0, 0, 1, 1, LAIN), 33);
    }

    static void promise24ItGoesFromThisNightOn() {
        String text = "l0,0;w8,1;w20,1;g4,1,0;";
        for (int t = 0; t < 4; t++) {
            WakeLet x = open(text);
            passNights(x, t);
            fill(x, 0, 0, seen(text, t, 5));
            due("from night " + t, x.fits(0, 0, 0, 5, SORTS) & 16, 16);
        }
        WakeLet y = open(READER);
        passNights(y, 999);
        y.row(0, 0, 16);
        due("from night 999, behind 10 nights yet 9 of 99", y.fits(0, 0, 0, 10, LAIN), 63);
        due("from night 999, behind 11", y.fits(0, 0, 0, 11, LAIN), 32);
    }

    static void promise24OthersAreLetAsTheyAre() {
        WakeLet x = open("l0,1;w8,1;w8,2;o9,1,0;o9,2,1;");
        fill(x, 0, 0, 3);
        due("the first to the first", x.fits(0, 0, 0, 1, LAIN), 1);
        due("the second to the second", x.fits(1, 0, 0, 1, LAIN), 2);
        x.let(1, 5);
        due("not without the other", x.fits(0, 0, 0, 1, LAIN), 0);
    }

    static void promise24NothingChanges() {
        WakeLet x = open("l0,1;w8,1;w8,2;o4,1,0;");
        x.row(0, 0, 3);
        for (int what = 0; what <= 2; what++) {
            x.fits(0, 0, 0, 3, what);
        }
        due("kind", x.kind(0), 1);
        due("to whom", x.waker(0, 2), 0);
        due("fits", x.waker(0, 1), 1);
        due("earned", x.count(5), 0);
        due("night", x.count(3), 0);
        due("acts", x.count(6), 0);
        due("weight", x.client(0, 0), 8);
    }
}
