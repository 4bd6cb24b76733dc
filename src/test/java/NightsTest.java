import java.util.Arrays;

/** Promise 9, and what part 2 of the document tells of a night. */
public final class NightsTest extends Sentences {
    public static void main(String[] args) {
        run(NightsTest.class);
    }

    /** How long waker 0 of a text lies in each of the nights 0 on; as many has he earned. */
    private static void lies(String text, int... hours) {
        WakeLet x = open(text);
        int earned = 0;
        for (int t = 0; t < hours.length; t++) {
            due(text + " lies in night " + t, x.waker(0, 3), hours[t]);
            x.nights(1);
            earned += hours[t];
            due(text + " has earned behind night " + t, x.waker(0, 4), earned);
        }
    }

    /** What client 0's worry weighs behind one night. */
    private static void weighs(String text, int weight) {
        WakeLet x = open(text);
        x.nights(1);
        due(text + " weighs", x.client(0, 0), weight);
    }

    // ---- the call

    static void promise9StateComesAheadOfBad() {
        WakeLet x = new WakeLet();
        due("0", x.nights(0), STATE);
        due("1", x.nights(1), STATE);
        due("25", x.nights(25), STATE);
        read(x, "l0,0;");
        due("behind a fault", x.nights(25), STATE);
    }

    static void promise9NightsAre1To24() {
        WakeLet x = open("l0,0;w0,0;");
        due("0", x.nights(0), BAD);
        due("-1", x.nights(-1), BAD);
        due("25", x.nights(25), BAD);
        due("the least", x.nights(MIN), BAD);
        due("the most", x.nights(MAX), BAD);
        due("none passed", x.count(3), 0);
        due("1", x.nights(1), 1);
        due("one passed", x.count(3), 1);
        due("24", x.nights(24), 1);
        due("25 passed", x.count(3), 25);
    }

    static void promise9Night999IsReachedAndNotGoneBeyond() {
        WakeLet x = open("l0,0;w0,0;");
        passNights(x, 975);
        due("24 to night 999", x.nights(24), 1);
        due("there", x.count(3), 999);
        due("one more", x.nights(1), FULL);
        due("24 more", x.nights(24), FULL);
        due("there yet", x.count(3), 999);
        x.undo();
        due("one from 998", x.nights(1), 1);
        WakeLet y = open("l0,0;w0,0;");
        passNights(y, 976);
        due("24 to night 1000", y.nights(24), FULL);
        due("none of them passed", y.count(3), 976);
        due("23 to night 999", y.nights(23), 1);
    }

    static void promise9BadComesAheadOfFull() {
        WakeLet x = open("l0,0;w0,0;");
        passNights(x, 999);
        due("0", x.nights(0), BAD);
        due("25", x.nights(25), BAD);
        due("1", x.nights(1), FULL);
    }

    static void promise9FullLeavesAllAsItWas() {
        WakeLet x = open("l0,0;w40,0;w9,1;o9,0,1;");
        passNights(x, 999);
        int earned = x.count(5);
        due("beyond", x.nights(2), FULL);
        due("acts", x.count(6), 24);
        due("earned", x.count(5), earned);
        due("undone", x.undo(), 23);
        due("night", x.count(3), 998);
        due("beyond by one of two", x.nights(2), FULL);
        due("acts", x.count(6), 23);
    }

    static void promise9ItTellsWhoRestsThen() {
        due("none", open("l0,0;w9,0;w9,0;w9,0;w9,0;w9,0;").nights(1), 0);
        due("all", open("l20,0;w9,0;w9,0;w9,0;w9,0;w9,0;").nights(1), 31);
        due("the last", open("l0,0;w9,0;w9,0;w9,0;w9,0;w9,0;o9,0,4;").nights(1), 16);
        due("not ahead of the last night", open("l5,0;w5,0;").nights(1), 0);
    }

    static void promise9EachNightIsAnAct() {
        WakeLet x = open("l0,0;w0,0;");
        x.nights(3);
        due("3", x.count(6), 3);
        x.nights(20);
        due("23", x.count(6), 23);
        x.nights(1);
        due("24", x.count(6), 24);
        x.nights(24);
        due("24 at most", x.count(6), 24);
    }

    static void promise9TheNightIsOneMore() {
        WakeLet x = open("l0,0;w0,0;");
        for (int t = 0; t < 9; t++) {
            due("night", x.count(3), t);
            x.nights(1);
        }
    }

    // ---- how long a waker lies

    static void promise9AnOwlLiesHisHours() {
        lies("l0,0;w40,1;o0,1,0;", 0, 0, 0);
        lies("l0,0;w40,1;o9,1,0;", 9, 9, 9, 9, 9, 9, 9, 9, 9, 9);
        lies("l0,0;w40,1;o9,2,0;", 9, 9, 9, 9, 9, 9, 9, 9, 9, 9);
    }

    static void promise9AClerkDoesNotLieByTheMoon() {
        for (int moon = 0; moon <= 6; moon++) {
            int[] hours = new int[22];
            Arrays.fill(hours, 7);
            for (int off = moon; off < 22; off += 7) {
                hours[off] = 0;
            }
            lies("l0," + moon + ";w40,1;c7,1,0;", hours);
        }
        lies("l0,6;w40,1;c0,1,0;", 0, 0, 0);
    }

    static void promise9AMotherLiesTwiceForWhatFitsHer() {
        lies("l0,0;w40,1;m9,1,0;", 18, 18, 18);
        lies("l0,0;w40,1;m9,2,0;", 9, 9, 9);
        lies("l0,0;w40,1;m0,1,0;", 0, 0, 0);
        lies("l0,0;w40,2;w40,1;m9,1,1;", 18, 18, 18);
        lies("l0,0;w40,1;w40,2;m9,1,1;", 9, 9, 9);
    }

    static void promise9AGuardDoesNotLieEachThirdNight() {
        lies("l0,0;w40,1;g9,1,0;", 9, 9, 0, 9, 9, 0, 9, 9, 0, 9);
        lies("l0,2;w40,1;g0,1,0;", 0, 0, 0, 0);
    }

    static void promise9ANoviceLiesHalfOfTheNightMoreNineAtMost() {
        lies("l0,0;w40,1;n3,1,0;", 3, 3, 1, 4, 5, 2, 6, 6, 4, 7, 8, 5, 9, 9, 7, 9, 9, 8, 9, 9, 9, 9, 9, 9);
        lies("l0,0;w40,1;n9,1,0;", 9, 9, 1, 9, 9, 2, 9, 9, 4, 9, 9, 5);
        lies("l0,0;w40,1;n0,1,0;", 0, 0, 1, 1, 2, 2, 3, 3, 4, 4, 5, 5, 6, 6, 7, 7, 8, 8, 9, 9, 9, 9);
    }

    static void promise9TheLatestNightsGoByTheSameRules() {
        WakeLet x = open("l0,4;w40,1;c5,1,0;g5,1,0;n5,1,0;m5,1,0;");
        passNights(x, 998);
        due("998 by 7 leaves 4: a clerk", x.waker(0, 3), 0);
        due("998 by 3 leaves 2: a guard", x.waker(1, 3), 0);
        due("a novice", x.waker(2, 3), 9);
        x.nights(1);
        due("999: a clerk", x.waker(0, 3), 5);
        due("999: a guard", x.waker(1, 3), 5);
        due("999: a novice", x.waker(2, 3), 9);
        due("999: a mother", x.waker(3, 3), 10);
    }

    static void promise9WhoIsLetToNobodyDoesNotLie() {
        for (char sort : "ocmgn".toCharArray()) {
            lies("l0,6;w40,1;" + sort + "9,1,5;", 0, 0, 0, 0);
        }
    }

    // ---- what becomes of a worry

    static void promise9AllHoursAreTakenIfItFits() {
        weighs("l0,0;w40,1;o9,1,0;", 31);
        weighs("l0,0;w40,1;o1,1,0;", 39);
        weighs("l0,0;w40,1;m9,1,0;", 22);
        weighs("l0,0;w40,0;o9,0,0;", 31);
        weighs("l0,0;w40,5;o9,5,0;", 31);
    }

    static void promise9ElseHalfOfThemCut() {
        weighs("l0,0;w40,1;o9,0,0;", 36);
        weighs("l0,0;w40,1;o8,2,0;", 36);
        weighs("l0,0;w40,1;o3,2,0;", 39);
        weighs("l0,0;w40,1;o2,2,0;", 39);
        weighs("l0,0;w40,1;m9,2,0;", 36);
    }

    static void promise9HalfOfOneHourIsNothing() {
        weighs("l0,0;w40,1;o1,2,0;", 41);
        weighs("l0,0;w40,1;o0,1,0;", 41);
    }

    static void promise9OnlyHeTakesWhoTakesMost() {
        weighs("l0,0;w40,1;o5,1,0;o9,1,0;", 31);
        weighs("l0,0;w40,1;o9,1,0;o5,1,0;", 31);
        weighs("l0,0;w40,1;o5,1,0;o9,2,0;", 35);
        weighs("l0,0;w40,1;o4,1,0;o9,2,0;", 36);
        weighs("l0,0;w40,1;o3,1,0;o9,2,0;", 36);
        weighs("l0,0;w40,1;o9,2,0;o9,3,0;o9,4,0;m5,1,0;", 30);
    }

    static void promise9OfSeveralAlikeOneTakes() {
        weighs("l0,0;w40,1;o5,1,0;o5,1,0;o5,1,0;o5,1,0;", 35);
    }

    static void promise9WakersOfOthersTakeNothing() {
        weighs("l0,0;w40,1;w40,1;o9,1,1;o9,1,5;", 41);
    }

    static void promise9AWeightIs0AtLeast() {
        weighs("l0,0;w9,1;o8,1,0;", 1);
        weighs("l0,0;w9,1;o9,1,0;", 0);
        weighs("l0,0;w8,1;o9,1,0;", 0);
        weighs("l0,0;w0,1;o9,1,0;", 0);
        weighs("l0,0;w1,1;m9,1,0;", 0);
    }

    static void promise9AWorryFromWhichNothingIsTakenIsOneHeavierIfAbove0() {
        weighs("l0,0;w0,1;", 0);
        weighs("l0,0;w1,1;", 2);
        weighs("l0,0;w40,1;", 41);
        weighs("l20,0;w5,1;", 6);
        weighs("l0,0;w0,1;o1,2,0;", 0);
        weighs("l0,0;w9,1;c9,1,0;", 10);
    }

    static void promise9AWeightIs99AtMost() {
        WakeLet x = open("l0,0;w40,1;");
        passNights(x, 58);
        due("98", x.client(0, 0), 98);
        x.nights(1);
        due("99", x.client(0, 0), 99);
        x.nights(1);
        due("99 still", x.client(0, 0), 99);
        x.nights(24);
        due("99 yet", x.client(0, 0), 99);
    }

    static void promise9AllLieInTheSameNight() {
        WakeLet x = open("l0,6;w40,1;w40,2;o5,1,0;n4,2,1;");
        x.nights(3);
        due("first", x.client(0, 0), 25);
        due("second", x.client(1, 0), 31);
        due("earned by the novice", x.waker(1, 4), 9);
    }

    static void promise9OneEarnsWhetherHeTakesAnythingOrNot() {
        WakeLet x = open("l0,6;w40,1;w0,2;o5,1,0;o9,1,0;o1,2,0;o7,2,1;");
        x.nights(2);
        due("takes less than another", x.waker(0, 4), 10);
        due("takes most", x.waker(1, 4), 18);
        due("takes half of 1", x.waker(2, 4), 2);
        due("there is nothing to take", x.waker(3, 4), 14);
        due("all", x.count(5), 44);
    }

    static void promise9AClientRestsIfHisWeightIsBearsOrLess() {
        due("0, 1 by 0", open("l0,0;w0,0;w1,0;").count(4), 1);
        due("19, 20, 21 by 20", open("l20,0;w19,0;w20,0;w21,0;").count(4), 3);
        due("to just 5, to 6", open("l5,0;w14,0;w15,0;o9,0,0;o9,0,1;").nights(1), 1);
        due("from just 5", open("l5,0;w5,0;w4,0;").nights(1), 2);
    }
}
