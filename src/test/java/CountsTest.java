/** Promises 33 and 34. */
public final class CountsTest extends Sentences {
    public static void main(String[] args) {
        run(CountsTest.class);
    }

    // ---- 33: count

    static void promise33WhatIs0To7() {
        WakeLet x = open("l5,6;w0,0;w9,0;w5,0;o3,0,1;m2,0,0;");
        x.row(3, 0, 1);
        x.feed('l');
        x.feed('l');
        x.nights(1);
        x.grow(0, 2);
        int[] due = {1, 3, 2, 1, 1, 7, 2, 2};
        for (int what = 0; what <= 7; what++) {
            due("what " + what, x.count(what), due[what]);
        }
        due("-1", x.count(-1), BAD);
        due("8", x.count(8), BAD);
        due("the least", x.count(MIN), BAD);
        due("the most", x.count(MAX), BAD);
    }

    static void promise33RowsAre0To8() {
        WakeLet x = new WakeLet();
        for (int r = 0; r <= 7; r++) {
            due("rows", x.count(0), r);
            x.row(r, r % 3, r % 2);
        }
        due("all", x.count(0), 8);
        x.row(3, 0, 40);
        due("in place of another", x.count(0), 8);
        x.drop(3);
        due("one dropped", x.count(0), 7);
        x.drop(3);
        due("not twice", x.count(0), 7);
    }

    static void promise33ClientsAndWakersAreAsRead() {
        for (int clients = 1; clients <= 5; clients++) {
            for (int wakers = 0; wakers <= 4; wakers++) {
                WakeLet x = open("l0,0;" + "w0,0;".repeat(clients) + "o1,0,5;".repeat(wakers));
                due("clients", x.count(1), clients);
                due("wakers", x.count(2), wakers);
            }
        }
    }

    static void promise33TheNightGoesTo999AndBack() {
        WakeLet x = open("l0,0;w0,0;");
        due("0", x.count(3), 0);
        passNights(x, 999);
        due("999", x.count(3), 999);
        x.nights(1);
        due("999 yet", x.count(3), 999);
        x.undo();
        due("998", x.count(3), 998);
    }

    static void promise33WhoRestsIsBits() {
        due("none", open("l0,0;w1,0;w1,0;w1,0;w1,0;w1,0;").count(4), 0);
        due("all", open("l1,0;w1,0;w1,0;w1,0;w1,0;w1,0;").count(4), 31);
        due("the last", open("l1,0;w2,0;w2,0;w2,0;w2,0;w1,0;").count(4), 16);
    }

    static void promise33AllEarnedIsOfAllWakers() {
        WakeLet x = open("l0,6;w1,0;w1,1;o1,0,0;o2,0,1;o4,0,5;m4,0,0;");
        due("none yet", x.count(5), 0);
        x.nights(1);
        due("1, 2, 0, 8", x.count(5), 11);
        x.undo();
        due("none again", x.count(5), 0);
        WakeLet y = open("l0,6;w1,0;m9,0,0;m9,0,0;m9,0,0;m9,0,0;");
        passNights(y, 999);
        due("most", y.count(5), 999 * 72);
        due("none there", open("l0,6;w1,0;").count(5), 0);
    }

    static void promise33ActsAre0To24() {
        WakeLet x = open("l0,6;w1,0;");
        for (int k = 0; k <= 24; k++) {
            due("acts", x.count(6), k);
            x.grow(0, 1);
        }
        due("24 at most", x.count(6), 24);
        x.undo();
        due("23", x.count(6), 23);
    }

    static void promise33BytesOnTheTapeAre0To100() {
        WakeLet x = new WakeLet();
        for (int n = 0; n <= 100; n++) {
            due("bytes", x.count(7), n);
            x.feed(255);
        }
        due("100 at most", x.count(7), 100);
        x.agency();
        due("none", x.count(7), 0);
    }

    // ---- 34: status

    /** An object whose latest finding is told; row 0 is of bytes, row 1 of shorts, each with two items. */
    private static WakeLet found(int finding) {
        WakeLet x = open(READER);
        x.row(0, 0, 2);
        x.row(1, 1, 2);
        switch (finding) {
            case 1 -> x.drop(7);
            case 2 -> x.set(0, 2, 0);
            case 3 -> x.as(0, 5);
            case 4 -> x.row(0, 0, -1);
            default -> x.copy(0, 0, 1, 0, 1);
        }
        due("finding", x.status(), finding);
        return x;
    }

    static void promise34Is0IfThereWasNone() {
        WakeLet x = new WakeLet();
        due("new", x.status(), 0);
        due("again", x.status(), 0);
        x.row(8, 0, 0);
        due("behind a refusal", x.status(), 0);
    }

    static void promise34EachFindingHasItsNumber() {
        WakeLet x = open(READER);
        x.row(0, 0, 2);
        x.row(1, 1, 2);
        int[] answers = {x.set(7, 0, 0), x.set(0, 2, 0), x.as(0, 5), x.row(0, 0, -1), x.copy(0, 0, 1, 0, 1)};
        for (int k = 0; k < answers.length; k++) {
            due("finding " + (k + 1), answers[k], -1000011 - k);
            found(k + 1);
        }
    }

    static void promise34EachCallWithARowTellsItsFinding() {
        WakeLet x = open(READER);
        x.row(0, 0, 2);
        x.set(7, 0, 0);
        due("set, null", x.status(), 1);
        x.set(0, 2, 0);
        due("set, place", x.status(), 2);
        x.copy(0, 0, 7, 0, 1);
        due("copy, null", x.status(), 1);
        x.copy(0, 0, 0, 0, 3);
        due("copy, place", x.status(), 2);
        x.drop(7);
        due("drop, null", x.status(), 1);
        x.fits(0, 0, 2, 1, 0);
        due("fits, place", x.status(), 2);
        x.fits(0, 7, 2, 1, 0);
        due("fits, null", x.status(), 1);
        x.row(0, 0, -1);
        due("row, size", x.status(), 4);
        x.as(0, 2);
        due("as, kind", x.status(), 3);
    }

    static void promise34EachCallWithARowThatHasNoneMakesIt0() {
        for (int finding = 1; finding <= 5; finding++) {
            WakeLet x = found(finding);
            x.row(2, 0, 1);
            due("row", x.status(), 0);
            x = found(finding);
            x.set(0, 0, 1);
            due("set", x.status(), 0);
            x = found(finding);
            x.copy(0, 0, 0, 0, 0);
            due("copy", x.status(), 0);
            x = found(finding);
            x.drop(0);
            due("drop", x.status(), 0);
            x = found(finding);
            x.fits(0, 0, 0, 1, 0);
            due("fits", x.status(), 0);
            x = found(finding);
            x.as(0, 1);
            due("as", x.status(), 0);
        }
    }

    static void promise34BadCallsWithARowLeaveIt() {
        for (int finding = 1; finding <= 5; finding++) {
            WakeLet x = found(finding);
            x.row(8, 0, 1);
            x.row(0, 3, 1);
            x.row(0, 0, 41);
            x.row(8, 0, -1);
            x.set(-1, 0, 0);
            x.copy(0, 0, 8, 0, 0);
            x.copy(-1, 0, 0, 0, 0);
            x.drop(8);
            x.fits(0, 0, 0, 0, 0);
            x.fits(9, 0, 0, 1, 0);
            x.as(9, 0);
            x.as(0, 6);
            due("still", x.status(), finding);
        }
    }

    static void promise34CallsWithoutARowLeaveIt() {
        for (int finding = 1; finding <= 5; finding++) {
            WakeLet x = found(finding);
            x.image(0);
            x.nights(1);
            x.let(0, 0);
            x.grow(0, 1);
            x.learn(0, 1);
            x.undo();
            x.client(0, 0);
            x.waker(0, 0);
            x.kind(0);
            due("behind acts and looks", x.status(), finding);
            x.weight(0, 1);
            x.earned(0, 1);
            x.rests(1);
            x.when(0);
            x.all(1);
            x.never();
            x.best(1, -1);
            x.fewest(1, 1, -1);
            x.nods(1, 1, 1);
            x.drawn(1, 1, 1);
            due("behind what is foretold", x.status(), finding);
            x.ask(0, 0);
            x.trace(0);
            x.count(0);
            x.fault();
            x.restore(0);
            x.feed('l');
            x.agency();
            read(x, READER);
            due("behind all others", x.status(), finding);
        }
    }
}
