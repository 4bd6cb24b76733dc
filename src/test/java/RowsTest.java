/** Promises 1 to 5. */
public final class RowsTest extends Sentences {
    public static void main(String[] args) {
        run(RowsTest.class);
    }

    // ---- 1: a new object

    static void promise1TheConstantsAreAsTold() {
        due("NONE", WakeLet.NONE, NONE);
        due("BAD", WakeLet.BAD, BAD);
        due("STATE", WakeLet.STATE, STATE);
        due("FULL", WakeLet.FULL, FULL);
    }

    static void promise1AllCountsAreNone() {
        WakeLet x = new WakeLet();
        for (int what = 0; what <= 7; what++) {
            due("count(" + what + ")", x.count(what), 0);
        }
    }

    static void promise1ThereIsNoAgency() {
        WakeLet x = new WakeLet();
        due("nights", x.nights(1), STATE);
        due("rests", x.rests(0), STATE);
        due("all", x.all(0), STATE);
        due("never", x.never(), STATE);
        due("best", x.best(0, -1), STATE);
        due("fewest", x.fewest(0, 0, -1), STATE);
        due("nods", x.nods(0, 0, 0), STATE);
        due("drawn", x.drawn(0, 1, 0), STATE);
        due("image", x.image(0), STATE);
    }

    static void promise1ThereIsNoClientAndNoWaker() {
        WakeLet x = new WakeLet();
        due("let", x.let(0, 5), BAD);
        due("grow", x.grow(0, 1), BAD);
        due("learn", x.learn(0, 0), BAD);
        due("client", x.client(0, 0), BAD);
        due("waker", x.waker(0, 0), BAD);
        due("weight", x.weight(0, 0), BAD);
        due("earned", x.earned(0, 0), BAD);
        due("when", x.when(0), BAD);
        due("kind", x.kind(0), BAD);
        due("as", x.as(0, 0), BAD);
        due("ask", x.ask(0, 0), BAD);
    }

    static void promise1ThereIsNoFaultFindingTraceActOrImage() {
        WakeLet x = new WakeLet();
        due("fault", x.fault(), 0);
        due("status", x.status(), 0);
        due("trace", x.trace(0), NONE);
        due("undo", x.undo(), STATE);
        due("restore 0", x.restore(0), STATE);
        due("restore 1", x.restore(1), STATE);
    }

    static void promise1AllRowsAreMissing() {
        WakeLet x = new WakeLet();
        for (int r = 0; r <= 7; r++) {
            due("set " + r, x.set(r, 0, 0), NULL);
            due("drop " + r, x.drop(r), NULL);
            due("copy " + r, x.copy(r, 0, r, 0, 0), NULL);
        }
    }

    static void promise1ObjectsShareNothing() {
        WakeLet x = open("l5,0;w9,1;o3,1,0;");
        x.row(0, 0, 1);
        x.nights(2);
        x.image(0);
        x.ask(0, 0);
        x.feed('l');
        x.drop(7);
        WakeLet y = new WakeLet();
        for (int what = 0; what <= 7; what++) {
            due("count(" + what + ")", y.count(what), 0);
        }
        due("restore", y.restore(0), STATE);
        due("trace", y.trace(0), NONE);
        due("status", y.status(), 0);
    }

    // ---- 2: row

    static void promise2RowsAre0To7() {
        WakeLet x = new WakeLet();
        due("row -1", x.row(-1, 0, 1), BAD);
        for (int r = 0; r <= 7; r++) {
            due("row " + r, x.row(r, 0, r + 1), r + 1);
            due("rows there", x.count(0), r + 1);
        }
        due("row 8", x.row(8, 0, 1), BAD);
        due("the least", x.row(MIN, 0, 1), BAD);
        due("the most", x.row(MAX, 0, 1), BAD);
    }

    static void promise2LanesAre0To2() {
        WakeLet x = new WakeLet();
        int[] due = {112, 4464, 70000};
        for (int lane = 0; lane <= 2; lane++) {
            due("lane " + lane, x.row(0, lane, 1), 1);
            due("its bits", x.set(0, 0, 70000), due[lane]);
        }
        due("lane -1", x.row(0, -1, 1), BAD);
        due("lane 3", x.row(0, 3, 1), BAD);
        due("the least", x.row(0, MIN, 1), BAD);
        due("the most", x.row(0, MAX, 1), BAD);
    }

    static void promise2ItemsAre0To40() {
        WakeLet x = new WakeLet();
        due("0", x.row(0, 0, 0), 0);
        due("0 is a row", x.count(0), 1);
        due("0 has no place", x.set(0, 0, 1), PLACE);
        due("1", x.row(0, 0, 1), 1);
        due("40", x.row(0, 0, 40), 40);
        due("its last place", x.set(0, 39, 1), 1);
        due("one more", x.set(0, 40, 1), PLACE);
        due("41", x.row(0, 0, 41), BAD);
        due("the most", x.row(0, 0, MAX), BAD);
    }

    static void promise2FewerItemsThanNoneAreSize() {
        WakeLet x = new WakeLet();
        due("-1", x.row(0, 0, -1), SIZE);
        due("status", x.status(), 4);
        due("the least", x.row(7, 2, MIN), SIZE);
        due("no row is made", x.count(0), 0);
    }

    static void promise2BadComesAheadOfSize() {
        WakeLet x = new WakeLet();
        due("row 8", x.row(8, 0, -1), BAD);
        due("row -1", x.row(-1, 0, -1), BAD);
        due("lane 3", x.row(0, 3, -1), BAD);
        due("lane -1", x.row(0, -1, -1), BAD);
        due("no finding", x.status(), 0);
    }

    static void promise2ItemsAre0AtFirst() {
        for (int lane = 0; lane <= 2; lane++) {
            WakeLet x = open(READER);
            x.row(3, lane, 40);
            dueItems("lane " + lane, x, 3, new int[40]);
        }
    }

    static void promise2ARowStandsInPlaceOfTheOneBefore() {
        WakeLet x = open(READER);
        fill(x, 0, 2, 1, 2, 4, 8, 16);
        due("shorter", x.row(0, 2, 2), 2);
        dueItems("shorter", x, 0, 0, 0);
        due("longer", x.row(0, 2, 5), 5);
        dueItems("longer", x, 0, 0, 0, 0, 0, 0);
        x.set(0, 4, 16);
        due("of another lane", x.row(0, 0, 5), 5);
        dueItems("of another lane", x, 0, 0, 0, 0, 0, 0);
        due("its bits", x.set(0, 0, 256), 0);
        due("one row", x.count(0), 1);
    }

    static void promise2OtherRowsStay() {
        WakeLet x = open(READER);
        fill(x, 2, 0, 1, 2);
        fill(x, 4, 1, 4, 8);
        x.row(3, 2, 40);
        dueItems("ahead", x, 2, 1, 2);
        dueItems("behind", x, 4, 4, 8);
    }

    static void promise2ARefusedRowLeavesTheOneThere() {
        WakeLet x = open(READER);
        fill(x, 7, 1, 1, 2);
        due("size", x.row(7, 0, -1), SIZE);
        due("41", x.row(7, 0, 41), BAD);
        due("lane 3", x.row(7, 3, 1), BAD);
        dueItems("as it was", x, 7, 1, 2);
        due("its lane", x.set(7, 0, 70000), 4464);
    }

    // ---- 3: set

    static void promise3RowsAre0To7() {
        WakeLet x = new WakeLet();
        x.row(0, 2, 1);
        x.row(7, 2, 1);
        due("row 0", x.set(0, 0, 5), 5);
        due("row 7", x.set(7, 0, 6), 6);
        due("row -1", x.set(-1, 0, 0), BAD);
        due("row 8", x.set(8, 0, 0), BAD);
        due("the least", x.set(MIN, 0, 0), BAD);
        due("the most", x.set(MAX, 0, 0), BAD);
    }

    private static void wraps(int lane, int[] told, int[] due) {
        WakeLet x = new WakeLet();
        x.row(0, lane, 1);
        for (int k = 0; k < told.length; k++) {
            due("lane " + lane + ", " + told[k], x.set(0, 0, told[k]), due[k]);
        }
    }

    static void promise3AByteHasEightBits() {
        wraps(0, new int[] {-129, -128, -1, 0, 127, 128, 255, 256, 511, MIN, MAX},
                new int[] {127, -128, -1, 0, 127, -128, -1, 0, -1, 0, -1});
    }

    static void promise3AShortHasSixteenBits() {
        wraps(1, new int[] {-32769, -32768, -1, 0, 32767, 32768, 65535, 65536, MIN, MAX},
                new int[] {32767, -32768, -1, 0, 32767, -32768, -1, 0, 0, -1});
    }

    static void promise3AnIntHasAllBits() {
        wraps(2, new int[] {MIN, -1, 0, 65536, MAX}, new int[] {MIN, -1, 0, 65536, MAX});
    }

    static void promise3PlacesGoFrom0ToTheLastItem() {
        WakeLet x = new WakeLet();
        x.row(0, 0, 3);
        x.row(1, 0, 40);
        due("-1", x.set(0, -1, 0), PLACE);
        due("0", x.set(0, 0, 1), 1);
        due("2", x.set(0, 2, 1), 1);
        due("3", x.set(0, 3, 1), PLACE);
        due("39", x.set(1, 39, 1), 1);
        due("40", x.set(1, 40, 1), PLACE);
        due("the least", x.set(1, MIN, 1), PLACE);
        due("the most", x.set(1, MAX, 1), PLACE);
        due("status", x.status(), 2);
    }

    static void promise3AnEmptyRowHasNoPlace() {
        WakeLet x = new WakeLet();
        x.row(0, 0, 0);
        due("-1", x.set(0, -1, 1), PLACE);
        due("0", x.set(0, 0, 1), PLACE);
        due("1", x.set(0, 1, 1), PLACE);
    }

    static void promise3AShorterRowEndsSooner() {
        WakeLet x = new WakeLet();
        x.row(0, 0, 9);
        x.row(0, 0, 4);
        due("3", x.set(0, 3, 1), 1);
        due("4", x.set(0, 4, 1), PLACE);
    }

    static void promise3AMissingRowIsNullAheadOfPlace() {
        WakeLet x = new WakeLet();
        due("0", x.set(3, 0, 0), NULL);
        due("-1", x.set(3, -1, 0), NULL);
        due("40", x.set(3, 40, 0), NULL);
        due("status", x.status(), 1);
    }

    static void promise3AnItemBecomesSoAndItsNeighboursStay() {
        WakeLet x = open(READER);
        fill(x, 0, 0, 1, 2, 4);
        due("in the middle", x.set(0, 1, 16), 16);
        dueItems("then", x, 0, 1, 16, 4);
        due("cut to 0", x.set(0, 2, 256), 0);
        dueItems("then", x, 0, 1, 16, 0);
    }

    static void promise3WhatIsFoundLeavesTheItems() {
        WakeLet x = open(READER);
        fill(x, 0, 0, 1, 2, 4);
        due("3", x.set(0, 3, 8), PLACE);
        due("-1", x.set(0, -1, 8), PLACE);
        due("row 1", x.set(1, 0, 8), NULL);
        dueItems("as they were", x, 0, 1, 2, 4);
        due("row 1 is missing yet", x.count(0), 1);
    }

    // ---- 4: copy

    static void promise4RowsAre0To7() {
        WakeLet x = new WakeLet();
        x.row(0, 0, 1);
        x.row(7, 0, 1);
        due("0 to 7", x.copy(0, 0, 7, 0, 1), 1);
        due("7 to 0", x.copy(7, 0, 0, 0, 1), 1);
        int[] wrong = {-1, 8, MIN, MAX};
        for (int r : wrong) {
            due("from " + r, x.copy(r, 0, 0, 0, 1), BAD);
            due("to " + r, x.copy(0, 0, r, 0, 1), BAD);
        }
    }

    static void promise4BadComesAheadOfNull() {
        WakeLet x = new WakeLet();
        due("from 8", x.copy(8, 0, 3, 0, 1), BAD);
        due("to 8", x.copy(3, 0, 8, 0, 1), BAD);
        due("from -1", x.copy(-1, 0, 3, 0, 1), BAD);
        due("to -1", x.copy(3, 0, -1, 0, 1), BAD);
    }

    static void promise4AMissingRowIsNullAheadOfAllFindings() {
        WakeLet x = new WakeLet();
        x.row(0, 2, 3);
        due("from", x.copy(1, 0, 0, 0, 1), NULL);
        due("to", x.copy(0, 0, 1, 0, 1), NULL);
        due("both", x.copy(1, 0, 1, 0, 0), NULL);
        due("from, and no place", x.copy(1, -1, 0, 9, -1), NULL);
        due("to, and no place", x.copy(0, -1, 1, 9, -1), NULL);
        due("status", x.status(), 1);
    }

    static void promise4TwoLanesAreStore() {
        WakeLet x = new WakeLet();
        for (int lane = 0; lane <= 2; lane++) {
            x.row(lane, lane, 4);
            x.row(lane + 3, lane, 4);
        }
        for (int a = 0; a <= 2; a++) {
            for (int b = 0; b <= 2; b++) {
                due(a + " to " + b, x.copy(a, 0, b + 3, 0, 4), a == b ? 4 : STORE);
                due("status", x.status(), a == b ? 0 : 5);
            }
        }
    }

    static void promise4StoreComesAheadOfPlace() {
        WakeLet x = new WakeLet();
        x.row(0, 0, 4);
        x.row(1, 1, 4);
        due("i", x.copy(0, -1, 1, 0, 1), STORE);
        due("j", x.copy(0, 0, 1, 5, 1), STORE);
        due("n", x.copy(0, 0, 1, 0, -1), STORE);
        due("none", x.copy(0, 0, 1, 0, 0), STORE);
    }

    static void promise4BelowZeroIsPlace() {
        WakeLet x = new WakeLet();
        x.row(0, 0, 4);
        x.row(1, 0, 4);
        due("0, 0, 0", x.copy(0, 0, 1, 0, 0), 0);
        due("i -1", x.copy(0, -1, 1, 0, 1), PLACE);
        due("j -1", x.copy(0, 0, 1, -1, 1), PLACE);
        due("n -1", x.copy(0, 0, 1, 0, -1), PLACE);
        due("i -1, none", x.copy(0, -1, 1, 0, 0), PLACE);
        due("j -1, none", x.copy(0, 0, 1, -1, 0), PLACE);
        due("n -1, from 1", x.copy(0, 1, 1, 1, -1), PLACE);
        due("i least", x.copy(0, MIN, 1, 0, 1), PLACE);
        due("j least", x.copy(0, 0, 1, MIN, 1), PLACE);
        due("n least", x.copy(0, 0, 1, 0, MIN), PLACE);
        due("status", x.status(), 2);
    }

    static void promise4BeyondAnEndIsPlace() {
        WakeLet x = new WakeLet();
        x.row(0, 0, 4);
        x.row(1, 0, 6);
        due("to the first's end", x.copy(0, 1, 1, 0, 3), 3);
        due("beyond it", x.copy(0, 2, 1, 0, 3), PLACE);
        due("all of the first", x.copy(0, 0, 1, 0, 4), 4);
        due("more than it", x.copy(0, 0, 1, 0, 5), PLACE);
        due("to the second's end", x.copy(0, 0, 1, 2, 4), 4);
        due("beyond it", x.copy(0, 0, 1, 3, 4), PLACE);
        due("back to the first's end", x.copy(1, 0, 0, 1, 3), 3);
        due("back beyond it", x.copy(1, 0, 0, 1, 4), PLACE);
    }

    static void promise4NoneAtAnEndIsGoodBeyondItPlace() {
        WakeLet x = new WakeLet();
        x.row(0, 0, 4);
        x.row(1, 0, 6);
        due("at both ends", x.copy(0, 4, 1, 6, 0), 0);
        due("beyond the first's", x.copy(0, 5, 1, 6, 0), PLACE);
        due("beyond the second's", x.copy(0, 4, 1, 7, 0), PLACE);
    }

    static void promise4SumsThatRunOverArePlace() {
        WakeLet x = new WakeLet();
        x.row(0, 0, 40);
        x.row(1, 0, 40);
        due("i most", x.copy(0, MAX, 1, 0, 1), PLACE);
        due("j most", x.copy(0, 0, 1, MAX, 1), PLACE);
        due("n most", x.copy(0, 0, 1, 0, MAX), PLACE);
        due("n most, from 1", x.copy(0, 1, 1, 1, MAX), PLACE);
        due("all most", x.copy(0, MAX, 1, MAX, MAX), PLACE);
        due("i most, none", x.copy(0, MAX, 1, 0, 0), PLACE);
    }

    static void promise4EmptyRowsHaveNoneToCopy() {
        WakeLet x = new WakeLet();
        x.row(0, 1, 0);
        x.row(1, 1, 0);
        due("none", x.copy(0, 0, 1, 0, 0), 0);
        due("none to itself", x.copy(0, 0, 0, 0, 0), 0);
        due("one", x.copy(0, 0, 1, 0, 1), PLACE);
        due("from 1", x.copy(0, 1, 1, 0, 0), PLACE);
        due("to 1", x.copy(0, 0, 1, 1, 0), PLACE);
    }

    static void promise4ItemsComeAndTheOthersStay() {
        WakeLet x = open(READER);
        fill(x, 0, 0, 1, 2, 4, 8, 16);
        fill(x, 1, 0, 16, 16, 16, 16, 16);
        due("two", x.copy(0, 1, 1, 2, 2), 2);
        dueItems("to", x, 1, 16, 16, 2, 4, 16);
        dueItems("from", x, 0, 1, 2, 4, 8, 16);
        due("none", x.copy(0, 0, 1, 0, 0), 0);
        dueItems("none came", x, 1, 16, 16, 2, 4, 16);
    }

    static void promise4AllFortyItemsCome() {
        WakeLet x = open(READER);
        x.row(0, 2, 40);
        x.row(1, 2, 40);
        int[] items = new int[40];
        for (int i = 0; i < 40; i++) {
            items[i] = 1 << i % 5;
            x.set(0, i, items[i]);
        }
        due("40", x.copy(0, 0, 1, 0, 40), 40);
        dueItems("there", x, 1, items);
    }

    static void promise4WithinARowItemsComeAsTheyWereAhead() {
        WakeLet x = open(READER);
        fill(x, 0, 0, 1, 2, 4, 8, 16);
        due("up by one", x.copy(0, 0, 0, 1, 4), 4);
        dueItems("up by one", x, 0, 1, 1, 2, 4, 8);
        fill(x, 0, 0, 1, 2, 4, 8, 16);
        due("down by one", x.copy(0, 1, 0, 0, 4), 4);
        dueItems("down by one", x, 0, 2, 4, 8, 16, 16);
        fill(x, 0, 0, 1, 2, 4, 8, 16);
        due("to itself", x.copy(0, 0, 0, 0, 5), 5);
        dueItems("to itself", x, 0, 1, 2, 4, 8, 16);
    }

    static void promise4WhatIsFoundLeavesBothRows() {
        WakeLet x = open(READER);
        fill(x, 0, 0, 1, 2, 4);
        fill(x, 1, 0, 8, 16);
        fill(x, 2, 1, 8, 16);
        due("beyond the second's end", x.copy(0, 0, 1, 0, 3), PLACE);
        due("beyond the first's end", x.copy(0, 2, 1, 0, 2), PLACE);
        due("lanes", x.copy(0, 0, 2, 0, 2), STORE);
        due("missing", x.copy(0, 0, 3, 0, 1), NULL);
        dueItems("first", x, 0, 1, 2, 4);
        dueItems("second", x, 1, 8, 16);
        dueItems("third", x, 2, 8, 16);
        due("no row more", x.count(0), 3);
    }

    // ---- 5: drop

    static void promise5RowsAre0To7() {
        WakeLet x = new WakeLet();
        x.row(0, 0, 2);
        x.row(7, 0, 3);
        due("-1", x.drop(-1), BAD);
        due("8", x.drop(8), BAD);
        due("the least", x.drop(MIN), BAD);
        due("the most", x.drop(MAX), BAD);
        due("0", x.drop(0), 2);
        due("7", x.drop(7), 3);
    }

    static void promise5ItTellsHowManyItemsThereWere() {
        WakeLet x = new WakeLet();
        x.row(1, 0, 0);
        x.row(2, 1, 1);
        x.row(3, 2, 40);
        due("0", x.drop(1), 0);
        due("1", x.drop(2), 1);
        due("40", x.drop(3), 40);
        due("none there", x.count(0), 0);
    }

    static void promise5TheRowIsMissingThen() {
        WakeLet x = open(READER);
        x.row(4, 0, 5);
        x.drop(4);
        due("drop", x.drop(4), NULL);
        due("set", x.set(4, 0, 1), NULL);
        due("copy", x.copy(4, 0, 4, 0, 0), NULL);
        due("fits", x.fits(0, 4, 0, 1, 0), NULL);
    }

    static void promise5AMissingRowIsNull() {
        WakeLet x = new WakeLet();
        due("never made", x.drop(5), NULL);
        due("status", x.status(), 1);
        due("still none", x.count(0), 0);
    }

    static void promise5OtherRowsStay() {
        WakeLet x = open(READER);
        fill(x, 3, 0, 1, 2);
        fill(x, 4, 0, 4);
        fill(x, 5, 0, 8, 16);
        x.drop(4);
        x.drop(4);
        x.drop(8);
        dueItems("ahead", x, 3, 1, 2);
        dueItems("behind", x, 5, 8, 16);
        due("two", x.count(0), 2);
    }

    static void promise5ARowMadeAgainHasItemsOf0() {
        WakeLet x = open(READER);
        fill(x, 0, 0, 1, 2, 4);
        x.drop(0);
        x.row(0, 0, 3);
        dueItems("anew", x, 0, 0, 0, 0);
    }
}
