/** Promises 6 to 8. */
public final class TextsTest extends Sentences {
    private static final String LAW = "l20,6;", CLIENT = "w40,5;", WAKER = "o9,5,5;";
    /** The tokens of a text, every number of two figures, and the bytes that can stand in place of each, or go on. */
    private static final String[] TOKENS =
        {"l", "20", ",", "06", ";", "w", "40", ",", "05", ";", "o", "09", ",", "05", ",", "00", ";", ""};
    private static final String FIGURES = "0123456789", SORTS = "ocmgn";
    private static final String[] CAN_STAND = {"l", FIGURES, ",", FIGURES, ";", "w", FIGURES, ",", FIGURES, ";",
        "w" + SORTS, FIGURES, ",", FIGURES, ",", FIGURES, ";", SORTS};

    public static void main(String[] args) {
        run(TextsTest.class);
    }

    private static void fault(String text, int number, int place) {
        WakeLet x = new WakeLet();
        due("agency of " + text, read(x, text), -1000100 - place);
        due("fault of " + text, x.fault(), number);
        due("clients of " + text, x.count(1), 0);
        due("tape behind " + text, x.count(7), 0);
    }

    private static WakeLet good(String text, int clients) {
        WakeLet x = new WakeLet();
        due("agency of " + text, read(x, text), clients);
        due("fault of " + text, x.fault(), 0);
        return x;
    }

    // ---- 6: feed

    static void promise6BytesAre0To255() {
        WakeLet x = new WakeLet();
        due("-1", x.feed(-1), BAD);
        due("256", x.feed(256), BAD);
        due("the least", x.feed(MIN), BAD);
        due("the most", x.feed(MAX), BAD);
        due("none came", x.count(7), 0);
        due("0", x.feed(0), 1);
        due("255", x.feed(255), 2);
        due("two came", x.count(7), 2);
    }

    static void promise6TheTapeHasAtMost100Bytes() {
        WakeLet x = new WakeLet();
        for (int n = 1; n <= 100; n++) {
            due("byte " + n, x.feed('l'), n);
        }
        due("one more", x.feed('l'), FULL);
        due("and again", x.feed('l'), FULL);
        due("100", x.count(7), 100);
    }

    static void promise6BadComesAheadOfFull() {
        WakeLet x = new WakeLet();
        for (int n = 1; n <= 100; n++) {
            x.feed('l');
        }
        due("256", x.feed(256), BAD);
        due("-1", x.feed(-1), BAD);
    }

    static void promise6WhatIsRefusedLeavesTheTape() {
        WakeLet x = new WakeLet();
        x.feed('l');
        x.feed(256 + '9');
        x.feed(-1);
        due("the rest, read", read(x, "8,3;w20,1;"), 1);
        String most = "l20,06;" + "w40,05;".repeat(5) + "o09,05,05;".repeat(4);
        for (int i = 0; i < 100; i++) {
            x.feed(i < most.length() ? most.charAt(i) : 'x');
        }
        x.feed('o');
        due("all but the first behind it is as it was", x.agency(), -1000100 - most.length());
    }

    static void promise6AByteComesBehindTheOthers() {
        WakeLet x = new WakeLet();
        due("l", x.feed('l'), 1);
        due("1", x.feed('1'), 2);
        due("2", x.feed('2'), 3);
        due("then", read(x, ",0;w12,0;w13,0;"), 2);
        due("12, not 21", x.count(4), 1);
    }

    static void promise6TheTapeBeginsAnewBehindAReading() {
        WakeLet x = new WakeLet();
        for (int n = 1; n <= 100; n++) {
            x.feed('l');
        }
        x.agency();
        due("none", x.count(7), 0);
        due("the first", x.feed('l'), 1);
        due("read alone", read(x, "0,0;w0,0;"), 1);
        due("the first again", x.feed('l'), 1);
    }

    // ---- 7: agency

    static void promise7AnEmptyTapeHasAFaultAt0() {
        fault("", 1, 0);
    }

    static void promise7ATextThatEndsTooSoonHasAFaultBehindItsLastByte() {
        StringBuilder text = new StringBuilder();
        for (int k = 0; k < TOKENS.length - 1; k++) {
            if (k != 10) {
                fault(text.toString(), 1, text.length());
            }
            text.append(TOKENS[k]);
        }
        fault("l2", 1, 2);
        fault("l20,6;w4", 1, 8);
        good(text.toString(), 1);
    }

    static void promise7WhatCannotStandThereIsAFault() {
        StringBuilder text = new StringBuilder();
        int start = 0;
        for (int k = 0; k < TOKENS.length; k++) {
            for (int letter = 0; letter <= 255; letter++) {
                boolean figure = FIGURES.indexOf(letter) >= 0;
                boolean runsOn = figure && text.length() - start == 2;
                if (CAN_STAND[k].indexOf(letter) < 0) {
                    fault(text.toString() + (char) letter, 1, runsOn ? start : text.length());
                }
            }
            start = text.length();
            text.append(TOKENS[k]);
        }
    }

    static void promise7TheNeighboursOfLettersFiguresAndSignsAreNoTokens() {
        for (char letter : "`{@Z[/:+-.<ABLWO".toCharArray()) {
            fault(letter + "20,6;w40,5;", 1, 0);
            fault("l20,6;w40,5;" + letter, 1, 12);
        }
    }

    static void promise7ThereAreNoBlanks() {
        for (char blank : " \t\n\r".toCharArray()) {
            fault(blank + "l20,6;w40,5;", 1, 0);
            fault("l" + blank + "20,6;w40,5;", 1, 1);
            fault("l2" + blank + "0,6;w40,5;", 1, 2);
            fault("l20,6;" + blank + "w40,5;", 1, 6);
            fault("l20,6;w40,5;" + blank, 1, 12);
        }
    }

    static void promise7EachLetterIsATokenByItself() {
        fault("ll20,6;w40,5;", 1, 1);
        fault("l20,6;ww40,5;", 1, 7);
        fault("l20,6;w40,5;oc9,5,0;", 1, 13);
    }

    static void promise7ThreeFiguresAreAFaultAtTheFirst() {
        fault("l000,6;w40,5;", 1, 1);
        fault("l20,006;w40,5;", 1, 4);
        fault("l20,6;w040,5;", 1, 7);
        fault("l20,6;w40,005;", 1, 10);
        fault("l20,6;w40,5;o009,5,0;", 1, 13);
        fault("l20,6;w40,5;o9,005,0;", 1, 15);
        fault("l20,6;w40,5;o9,5,000;", 1, 17);
        fault("l123", 1, 1);
        fault("l1234567890123456789012345678901234567890", 1, 1);
        fault("l4294967297,6;w40,5;", 1, 1);
    }

    static void promise7OfOneTokenTheLeastFaultCounts() {
        fault("l999,6;w40,5;", 1, 1);
        fault("999", 1, 0);
        fault("99", 1, 0);
        fault("l20,6;99", 1, 6);
        fault(LAW + CLIENT.repeat(5) + WAKER + "w", 1, 43);
        fault(LAW + CLIENT.repeat(5) + WAKER.repeat(4) + "w", 1, 64);
    }

    static void promise7TheFirstTokenThatHasAFaultCounts() {
        fault("l21,7;w41,6;", 2, 1);
        fault("l20,7;w41,6;", 2, 4);
        fault("l21", 2, 1);
        fault("l21 ", 2, 1);
        fault("l20,6;w41,6;o10,6,6;", 2, 7);
        fault("l20,6;w40,5;o10,6,6", 2, 13);
        fault("l20,6;w40,5;o9,6,6", 2, 15);
        fault("l20;w41", 1, 3);
        fault(LAW + CLIENT.repeat(5) + "w99,99", 3, 36);
        fault(LAW + CLIENT.repeat(5) + "w 999", 3, 36);
    }

    static void promise7BearsIs0To20() {
        due("0: who has 0", good("l0,0;w0,0;w1,0;", 2).count(4), 1);
        due("20: who has 20", good("l20,0;w20,0;w21,0;", 2).count(4), 1);
        fault("l21,0;w0,0;", 2, 1);
        fault("l99,0;w0,0;", 2, 1);
    }

    static void promise7MoonIs0To6() {
        for (int moon = 0; moon <= 6; moon++) {
            WakeLet x = good("l0," + moon + ";w40,0;c9,0,0;", 1);
            due("ahead of it", x.earned(0, moon), 9 * moon);
            due("behind it", x.earned(0, moon + 1), 9 * moon);
        }
        fault("l0,7;w0,0;", 2, 3);
        fault("l0,10;w0,0;", 2, 3);
        fault("l0,99;w0,0;", 2, 3);
    }

    static void promise7WeightIs0To40() {
        due("0", good("l0,0;w0,0;", 1).client(0, 0), 0);
        due("40", good("l0,0;w40,0;", 1).client(0, 0), 40);
        fault("l0,0;w41,0;", 2, 6);
        fault("l0,0;w99,0;", 2, 6);
    }

    static void promise7WorryIs0To5() {
        for (int worry = 0; worry <= 5; worry++) {
            due("worry", good("l0,0;w9," + worry + ";", 1).client(0, 1), worry);
        }
        fault("l0,0;w9,6;", 2, 8);
        fault("l0,0;w9,50;", 2, 8);
    }

    static void promise7HoursAre0To9() {
        due("0", good("l0,0;w9,0;o0,0,0;", 1).waker(0, 0), 0);
        due("9", good("l0,0;w9,0;o9,0,0;", 1).waker(0, 0), 9);
        fault("l0,0;w9,0;o10,0,0;", 2, 11);
        fault("l0,0;w9,0;o99,0,0;", 2, 11);
    }

    static void promise7FitsIs0To5() {
        for (int worry = 0; worry <= 5; worry++) {
            due("fits", good("l0,0;w9,0;o1," + worry + ",0;", 1).waker(0, 1), worry);
        }
        fault("l0,0;w9,0;o1,6,0;", 2, 13);
        fault("l0,0;w9,0;o1,15,0;", 2, 13);
    }

    static void promise7ForIsAClientToldOrNobody() {
        for (int clients = 1; clients <= 5; clients++) {
            String told = "l0,0;" + "w9,0;".repeat(clients) + "o1,0,";
            for (int of = 0; of <= 4; of++) {
                if (of < clients) {
                    due("for", good(told + of + ";", clients).waker(0, 2), of);
                } else {
                    fault(told + of + ";", 2, told.length());
                }
            }
            due("nobody", good(told + "5;", clients).waker(0, 2), 5);
            fault(told + "6;", 2, told.length());
            fault(told + "10;", 2, told.length());
        }
    }

    static void promise7ANumberMayHaveA0Ahead() {
        WakeLet x = good("l08,03;w09,01;o05,01,00;c05,01,05;", 1);
        due("weight", x.client(0, 0), 9);
        due("worry", x.client(0, 1), 1);
        due("hours", x.waker(0, 0), 5);
        due("fits", x.waker(0, 1), 1);
        due("for", x.waker(0, 2), 0);
        due("for nobody", x.waker(1, 2), 5);
        due("moon", x.let(1, 0), 5);
        due("moon 3", x.earned(1, 4), 15);
        due("bears 8", x.rests(0), 0);
        due("bears 8 then", x.rests(1), 1);
        due("00", good("l00,00;w00,00;", 1).count(4), 1);
    }

    static void promise7SortsAreFiveLetters() {
        for (char sort = 'a'; sort <= 'z'; sort++) {
            String text = "l0,0;w9,0;" + sort;
            int kind = SORTS.indexOf(sort) < 0 ? 0 : "0ocmgn".indexOf(sort);
            if (kind > 0) {
                due("kind of " + sort, good(text + "1,0,0;", 1).kind(0), kind);
            } else if (sort != 'w') {
                fault(text + "1,0,0;", 1, 10);
            }
        }
    }

    static void promise7ThereIsOneClientAtLeast() {
        fault("l0,0;", 1, 5);
        fault("l0,0;o1,0,5;", 1, 5);
        good("l0,0;w0,0;", 1);
    }

    static void promise7ThereAreFiveClientsAtMost() {
        for (int clients = 1; clients <= 5; clients++) {
            due("clients", good(LAW + CLIENT.repeat(clients), clients).count(1), clients);
        }
        fault(LAW + CLIENT.repeat(5) + "w", 3, 36);
        fault(LAW + CLIENT.repeat(6), 3, 36);
        fault(LAW + CLIENT.repeat(7), 3, 36);
        fault(LAW + CLIENT.repeat(6) + WAKER, 3, 36);
    }

    static void promise7ThereMayBeNoWaker() {
        due("none", good(LAW + CLIENT, 1).count(2), 0);
    }

    static void promise7ThereAreFourWakersAtMost() {
        for (int wakers = 1; wakers <= 4; wakers++) {
            due("wakers", good(LAW + CLIENT + WAKER.repeat(wakers), 1).count(2), wakers);
        }
        for (char sort : SORTS.toCharArray()) {
            fault(LAW + CLIENT + WAKER.repeat(4) + sort, 3, 40);
        }
        fault(LAW + CLIENT + WAKER.repeat(5), 3, 40);
        fault(LAW + CLIENT + WAKER.repeat(6), 3, 40);
        fault(LAW + CLIENT.repeat(5) + WAKER.repeat(5), 3, 64);
        fault(LAW + CLIENT + WAKER.repeat(4) + "x", 1, 40);
        fault(LAW + CLIENT + WAKER.repeat(4) + ";", 1, 40);
    }

    static void promise7ClientsComeAheadOfAllWakers() {
        fault(LAW + CLIENT + WAKER + CLIENT, 1, 19);
        fault(LAW + WAKER + CLIENT, 1, 6);
        fault(CLIENT + LAW, 1, 0);
        fault(LAW + CLIENT + LAW, 1, 12);
        fault(LAW + LAW + CLIENT, 1, 6);
    }

    static void promise7TheLongestTextIsRead() {
        WakeLet x = good("l20,06;" + "w40,05;".repeat(5) + "n09,05,05;".repeat(4), 5);
        due("clients", x.count(1), 5);
        due("wakers", x.count(2), 4);
        due("the last client", x.client(4, 0), 40);
        due("the last waker", x.kind(3), 5);
    }

    static void promise7TheTapeIsEmptyThen() {
        WakeLet x = new WakeLet();
        due("a good one", read(x, LAW + CLIENT), 1);
        due("empty", x.count(7), 0);
        due("nothing to read", x.agency(), -1000100);
        due("with a fault", read(x, LAW + "x"), -1000106);
        due("empty", x.count(7), 0);
        due("a good one again", read(x, LAW + CLIENT), 1);
    }

    static void promise7AnAgencyStandsInPlaceOfTheOneBefore() {
        WakeLet x = open("l20,3;w20,1;w15,2;w1,0;o5,1,2;c9,2,1;m1,0,0;");
        x.nights(3);
        x.grow(1, 20);
        due("another", read(x, "l9,5;w10,4;w9,3;g4,3,1;"), 2);
        due("clients", x.count(1), 2);
        due("wakers", x.count(2), 1);
        due("bears", x.count(4), 2);
        due("weight", x.client(0, 0), 10);
        due("worry", x.client(0, 1), 4);
        due("no client 2", x.client(2, 0), BAD);
        due("no waker 1", x.kind(1), BAD);
        due("kind", x.kind(0), 4);
        due("hours", x.waker(0, 0), 4);
        due("fits", x.waker(0, 1), 3);
        due("for", x.waker(0, 2), 1);
    }

    static void promise7ItIsNight0AndNobodyHasEarned() {
        WakeLet x = open("l8,3;w20,1;o5,1,0;o5,1,0;o5,1,0;o5,1,0;");
        x.nights(24);
        x.earned(0, 60);
        read(x, "l8,3;w20,1;o5,1,0;o5,1,0;o5,1,0;o5,1,0;");
        due("night", x.count(3), 0);
        due("all earned", x.count(5), 0);
        for (int w = 0; w < 4; w++) {
            due("earned", x.waker(w, 4), 0);
        }
    }

    static void promise7NoActCanBeUndoneThen() {
        WakeLet x = open("l8,3;w20,1;o5,1,0;");
        x.nights(24);
        x.grow(0, 1);
        read(x, "l8,3;w20,1;o5,1,0;");
        due("none", x.count(6), 0);
        due("undo", x.undo(), STATE);
        x.grow(0, 1);
        due("only what came since", x.undo(), 0);
        due("undo", x.undo(), STATE);
    }

    static void promise7ImagesRowsAndTheTraceStay() {
        WakeLet x = open(READER);
        fill(x, 0, 0, 1, 2);
        x.image(1);
        x.ask(0, 1);
        read(x, "l8,3;w20,1;");
        due("trace", x.trace(0), 21);
        due("row", x.count(0), 1);
        due("image", x.restore(1), 1);
        dueItems("items", x, 0, 1, 2);
    }

    static void promise7AFaultLeavesAllAsItWas() {
        WakeLet x = open("l8,3;w20,1;w15,2;o5,1,0;c5,2,5;");
        x.nights(2);
        due("a fault in the last number", read(x, "l1,1;w1,1;w2,2;w3,3;o1,1,4;"), -1000125);
        due("clients", x.count(1), 2);
        due("wakers", x.count(2), 2);
        due("night", x.count(3), 2);
        due("who rests", x.count(4), 0);
        due("earned", x.count(5), 10);
        due("weight", x.client(0, 0), 10);
        due("worry", x.client(1, 1), 2);
        due("kind", x.kind(1), 2);
        due("acts", x.undo(), 1);
        due("as ahead of it", x.client(0, 0), 15);
        due("the end missing", read(x, "l1,1;w1,1;w2,2;w3,3;o1,1,2"), -1000126);
        due("clients still", x.count(1), 2);
        due("no text", x.agency(), -1000100);
        due("clients still", x.count(1), 2);
        due("acts still", x.count(6), 1);
    }

    // ---- 8: fault

    static void promise8Is0BeforeOne() {
        WakeLet x = new WakeLet();
        due("new", x.fault(), 0);
        read(x, LAW + CLIENT);
        due("behind a good one", x.fault(), 0);
        x.feed(256);
        x.nights(0);
        x.drop(0);
        due("refusals and findings are none", x.fault(), 0);
    }

    static void promise8IsTheLatest() {
        WakeLet x = new WakeLet();
        read(x, LAW + CLIENT.repeat(6));
        due("3", x.fault(), 3);
        read(x, "l21");
        due("2", x.fault(), 2);
        read(x, "w");
        due("1", x.fault(), 1);
        read(x, LAW + CLIENT.repeat(6));
        due("3 again", x.fault(), 3);
    }

    static void promise8StaysBehindAGoodText() {
        WakeLet x = new WakeLet();
        read(x, "l21");
        due("good", read(x, LAW + CLIENT), 1);
        due("still", x.fault(), 2);
        x.image(0);
        x.restore(0);
        x.feed('l');
        due("still", x.fault(), 2);
    }
}
