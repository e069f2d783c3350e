/** Part 1 and promises 1 to 11: rules, buyers, their numbers, the tape and what is read from it. */
public final class EdgesOfBooks extends Asks {
    private static final int[] RULE_FIRST = {60, 1, 1, 0, 0}, RULE_LEAST = {1, 1, 0, 0, 0}, RULE_MOST = {99, 9, 99, 1, 99};
    private static final String LETTERS = "sdfbc";

    // ---- promise 1

    private static void aNewObject() {
        of("1: No lot, no buyer");
        FishSteps x = new FishSteps();
        due("count(0)", x.count(0), 0);
        due("count(1)", x.count(1), 0);
        due("lot(0, 0)", x.lot(0, 0), -1);
        due("told(0, 0)", x.told(0, 0), -100001);
        due("morning()", x.morning(), -2);
        due("rests(-1)", x.rests(-1), -2);
        due("hush()", x.hush(), 0);
        for (int law = 0; law < 3; law++) due("till(" + law + ")", x.till(law), 0);
    }

    private static void rulesAtFirst() {
        of("RULES, at first: 0 START 60, 1 DROP 1, 2 FLOOR 1, 3 BELL 0, 4 CREDIT 0");
        lawIs(new FishSteps(), 60, 1, 1, 0, 0);
    }

    private static void objectsApart() {
        of("1: a new object, whatever another one is told");
        FishSteps x = house("s9 d9 f9 b1 c9", "012");
        come(x, 0, 9, 9, 9);
        x.image();
        x.sheet(0, 0, 1);
        FishSteps y = new FishSteps();
        lawIs(y, 60, 1, 1, 0, 0);
        due("count(0)", y.count(0), 0);
        due("count(1)", y.count(1), 0);
        due("restore()", y.restore(), -4);
        due("drop(0)", y.drop(0), -11);
        due("rule(0, 1)", x.rule(0, 1), 9);
    }

    // ---- promise 2

    private static void boundsOfRules() {
        of("2: START 1 .. 99, DROP 1 .. 9, FLOOR 0 .. 99, BELL 0, 1, CREDIT 0 .. 99");
        for (int r = 0; r < 5; r++) {
            FishSteps x = new FishSteps();
            for (int v : new int[] {RULE_LEAST[r] - 1, RULE_MOST[r] + 1, -1, 100, MIN, MAX, MIN + RULE_FIRST[r], 256 + RULE_FIRST[r]}) {
                due("rule(" + r + ", " + v + ")", x.rule(r, v), -1);
            }
            due("rule(" + r + ", the least)", x.rule(r, RULE_LEAST[r]), RULE_FIRST[r]);
            due("rule(" + r + ", too small)", x.rule(r, RULE_LEAST[r] - 1), -1);
            due("rule(" + r + ", the greatest)", x.rule(r, RULE_MOST[r]), RULE_LEAST[r]);
            due("rule(" + r + ", too large)", x.rule(r, RULE_MOST[r] + 1), -1);
            due("rule(" + r + ", as at first)", x.rule(r, RULE_FIRST[r]), RULE_MOST[r]);
            lawIs(x, RULE_FIRST);
        }
    }

    private static void noSuchRule() {
        of("2: BAD, no such rule");
        FishSteps x = new FishSteps();
        for (int r : new int[] {-1, 5, MIN, MAX}) {
            for (int v = 0; v < 3; v++) due("rule(" + r + ", " + v + ")", x.rule(r, v), -1);
        }
        lawIs(x, RULE_FIRST);
    }

    // ---- promises 3 to 7

    private static void buyersAsTheyCome() {
        of("3: BUYERS 0 .. 4, as they come; FULL: 5");
        FishSteps x = new FishSteps();
        for (int b = 0; b < 5; b++) {
            due("count(1)", x.count(1), b);
            due("buyer(.., ..), number " + b, x.buyer(4 - b, b), b);
        }
        due("a sixth", x.buyer(0, 0), -3);
        due("and again", x.buyer(4, 999), -3);
        due("count(1)", x.count(1), 5);
        for (int b = 0; b < 5; b++) {
            due("told(" + b + ", 0)", x.told(b, 0), 4 - b);
            due("told(" + b + ", 6)", x.told(b, 6), b);
        }
    }

    private static void boundsOfABuyer() {
        of("3: a SORT 0 .. 4, a PURSE 0 .. 999");
        for (int sort = 0; sort < 5; sort++) {
            FishSteps x = new FishSteps();
            for (int no : new int[] {-1, 1000, MIN, MAX, MIN + 1, 65536}) due("buyer(.., " + no + ")", x.buyer(sort, no), -1);
            due("count(1)", x.count(1), 0);
            due("buyer(.., 0)", x.buyer(sort, 0), 0);
            due("buyer(.., 999)", x.buyer(sort, 999), 1);
            due("told(0, 0)", x.told(0, 0), sort);
            due("told(0, 6)", x.told(0, 6), 0);
            due("told(1, 6)", x.told(1, 6), 999);
        }
        FishSteps y = new FishSteps();
        for (int no : new int[] {-1, 5, MIN, MAX, 256}) due("buyer(" + no + ", 9)", y.buyer(no, 9), -1);
        due("count(1)", y.count(1), 0);
    }

    private static void worthsAndMarginsAtFirst() {
        of("WORTH of each KIND: 0 at first; MARGIN: 0 at first");
        FishSteps x = new FishSteps();
        come(x, 0, 9, 99, 40);
        x.buyer(1, 9);
        for (int what = 1; what < 6; what++) due("told(1, " + what + ")", x.told(1, what), 0);
        for (int k = 0; k < 4; k++) due("worth(1, " + k + ", 1)", x.worth(1, k, 1), 0);
        due("margin(1, 1)", x.margin(1, 1), 0);
    }

    private static void boundsOfWorth() {
        of("4: WORTH 0 .. 99");
        FishSteps x = new FishSteps();
        x.buyer(0, 9);
        for (int k = 0; k < 4; k++) {
            due("worth(0, " + k + ", 99)", x.worth(0, k, 99), 0);
            for (int no : new int[] {-1, 100, MIN, MAX, 256, -99}) due("worth(0, " + k + ", " + no + ")", x.worth(0, k, no), -1);
            due("told(0, " + (2 + k) + ")", x.told(0, 2 + k), 99);
            due("worth(0, " + k + ", 0)", x.worth(0, k, 0), 99);
            due("told(0, " + (2 + k) + ")", x.told(0, 2 + k), 0);
        }
    }

    private static void noSuchKindOrBuyer() {
        of("4, 5, 6, 7: BAD, no such kind, no such buyer");
        FishSteps x = new FishSteps();
        x.buyer(0, 9);
        x.buyer(0, 9);
        for (int no : new int[] {-1, 4, MIN, MAX}) {
            due("worth(0, " + no + ", 5)", x.worth(0, no, 5), -1);
            due("worth(1, " + no + ", 5)", x.worth(1, no, 5), -1);
        }
        for (int no : new int[] {-1, 2, 4, 5, MIN, MAX}) {
            due("worth(" + no + ", 0, 5)", x.worth(no, 0, 5), -1);
            due("margin(" + no + ", 5)", x.margin(no, 5), -1);
            due("told(" + no + ", 0)", x.told(no, 0), -100001);
            due("earn(" + no + ", 5)", x.earn(no, 5), -100001);
        }
        for (int b = 0; b < 2; b++) {
            for (int k = 0; k < 4; k++) due("told(" + b + ", " + (2 + k) + ")", x.told(b, 2 + k), 0);
        }
        x.buyer(0, 9);
        due("told(2, 1) of one who came since", x.told(2, 1), 0);
        due("told(2, 2) of one who came since", x.told(2, 2), 0);
        due("told(2, 6) of one who came since", x.told(2, 6), 9);
    }

    private static void boundsOfMargin() {
        of("5: MARGIN 0 .. 40");
        FishSteps x = new FishSteps();
        x.buyer(0, 9);
        due("margin(0, 40)", x.margin(0, 40), 0);
        for (int no : new int[] {-1, 41, MIN, MAX, 256, 99}) due("margin(0, " + no + ")", x.margin(0, no), -1);
        due("margin(0, 0)", x.margin(0, 0), 40);
        due("margin(0, 0)", x.margin(0, 0), 0);
    }

    private static void boundsOfTold() {
        of("6: 0 SORT, 1 MARGIN, 2 .. 5 WORTHS of KINDS, 6 PURSE");
        FishSteps x = new FishSteps();
        for (int b = 0; b < 5; b++) {
            x.buyer(b, 100 + b);
            x.margin(b, 10 + b);
            for (int k = 0; k < 4; k++) x.worth(b, k, 20 + 10 * k + b);
        }
        int[] due = {0, 10, 20, 30, 40, 50, 100};
        for (int b = 0; b < 5; b++) {
            for (int what = 0; what < 7; what++) due("told(" + b + ", " + what + ")", x.told(b, what), due[what] + b);
            for (int no : new int[] {-1, 7, MIN, MAX}) due("told(" + b + ", " + no + ")", x.told(b, no), -100001);
        }
    }

    private static void boundsOfEarn() {
        of("7: 1 .. 999; FULL: it would be above 9999");
        FishSteps x = new FishSteps();
        x.buyer(0, 0);
        for (int no : new int[] {0, -1, 1000, MIN, MAX, MAX - 9998}) due("earn(0, " + no + ")", x.earn(0, no), -100001);
        due("earn(0, 1)", x.earn(0, 1), 1);
        for (int i = 1; i <= 10; i++) due("earn(0, 999)", x.earn(0, 999), 1 + 999 * i);
        due("earn(0, 9) to 10000", x.earn(0, 9), -100003);
        due("told(0, 6)", x.told(0, 6), 9991);
        due("earn(0, 8) to 9999", x.earn(0, 8), 9999);
        due("earn(0, 1)", x.earn(0, 1), -100003);
        due("earn(0, 999)", x.earn(0, 999), -100003);
        due("told(0, 6)", x.told(0, 6), 9999);
    }

    private static void aPurseBelowNought() {
        of("PURSE (it may become less than 0): 7, what it has then");
        FishSteps x = house("s60 f50 c99", "0");
        come(x, 4, 0, 99, 0);
        due("morning()", x.morning(), 60);
        due("told(0, 6)", x.told(0, 6), -60);
        due("earn(0, 1)", x.earn(0, 1), -59);
        due("earn(0, 58)", x.earn(0, 58), -1);
        due("earn(0, 1)", x.earn(0, 1), 0);
        due("earn(0, 999)", x.earn(0, 999), 999);
    }

    // ---- promise 8

    private static void boundsOfHowManyBytes() {
        of("8: the n lowest bytes (1 .. 8)");
        FishSteps x = new FishSteps();
        long eight = 0x3031323334353637L;
        for (int no : new int[] {0, 9, -1, MIN, MAX, 256 + 1}) due("type(.., " + no + ")", x.type(eight, no), -1);
        due("type(.., 1)", x.type(0x2F39303132333430L, 1), 1);
        due("lots() of the lowest byte", x.lots(), 1);
        due("lot(0, 0)", x.lot(0, 0), 0);
        due("type(.., 8)", x.type(0x2030203120322033L, 8), 8);
        due("lots()", x.lots(), 4);
    }

    private static void theHighestFirst() {
        of("8: of these the highest first, come behind THE TAPE");
        FishSteps x = new FishSteps();
        due("type(3, 2, 1)", x.type(0x333231L, 3), 3);
        due("type(0)", x.type(0x30L, 1), 4);
        due("lots()", x.lots(), 4);
        for (int k = 0; k < 4; k++) due("lot(" + k + ", 0)", x.lot(k, 0), 3 - k);
    }

    private static void boundsOfAByte() {
        of("8: BAD: a byte not 32 .. 126");
        for (int place = 0; place < 8; place++) {
            FishSteps x = new FishSteps();
            long others = 0x2020202020202020L & ~(255L << 8 * place);
            for (int no : new int[] {0, 1, 31, 127, 128, 160, 255}) {
                due("type with a byte " + no + " at " + place, x.type(others | (long) no << 8 * place, 8), -1);
            }
            due("type with a byte 126", x.type(others | 126L << 8 * place, 8), 8);
            due("rules(), by its place", x.rules(), -20 - (7 - place));
            due("type with a byte 33", x.type(others | 33L << 8 * place, 8), 8);
            due("lots(), by its place", x.lots(), -20 - (7 - place));
            due("type of blanks", x.type(others | 32L << 8 * place, 8), 8);
            due("rules() of blanks", x.rules(), -28);
        }
    }

    private static void bytesAboveTheLowest() {
        of("8: the n lowest bytes alone are looked at");
        FishSteps x = new FishSteps();
        for (int n = 1; n < 8; n++) {
            long w = 0;
            for (int i = 0; i < 8; i++) w |= (i < n ? 0x30L : (long) (i % 2 == 0 ? 0xFF : 0x07)) << 8 * i;
            due("type(.., " + n + ")", x.type(w, n), n);
            due("lots()", x.lots(), n > 6 ? -26 : n);
        }
    }

    private static void theTapeIsFull() {
        of("8: FULL: 60");
        FishSteps x = new FishSteps();
        for (int i = 1; i <= 7; i++) x.type(0x2020202020202020L, 8);
        for (int n = 5; n <= 8; n++) due("type(.., " + n + ") to more than 60", x.type(0x3131313131313131L, n), -3);
        due("type(.., 3)", x.type(0x202020L, 3), 59);
        due("type(.., 2)", x.type(0x3131L, 2), -3);
        due("type(.., 1)", x.type(0x33L, 1), 60);
        for (int n = 1; n <= 8; n++) due("type(.., " + n + ") to a full one", x.type(0x3131313131313131L, n), -3);
        due("lots(), of what had come", x.lots(), 1);
        due("lot(0, 0)", x.lot(0, 0), 3);
        due("type to the empty one", x.type(0x30L, 1), 1);
    }

    // ---- promise 9

    private static void law(FishSteps x, String text, int want) {
        due("rules of \"" + text + "\"", rules(x, text), want);
    }

    /** That a text is refused, the rules stay, and the tape is empty. */
    private static void fault(String text, int place) {
        FishSteps x = new FishSteps();
        rules(x, "s77 d7 f17 b1 c7");
        law(x, text, -20 - place);
        due("type behind \"" + text + "\"", x.type(32, 1), 1);
        lawIs(x, 77, 7, 17, 1, 7);
    }

    private static void fromOneToFive() {
        of("9: 1 to 5 of s d f b c (RULES in this order), each once");
        for (int r = 0; r < 5; r++) {
            FishSteps x = new FishSteps();
            law(x, LETTERS.charAt(r) + "1", 1);
            int[] due = RULE_FIRST.clone();
            due[r] = 1;
            lawIs(x, due);
        }
        FishSteps all = new FishSteps();
        law(all, "s2d3f4b1c5", 5);
        lawIs(all, 2, 3, 4, 1, 5);
        law(all, "c6b0f5d4s3", 5);
        lawIs(all, 3, 4, 5, 0, 6);
        law(all, "f0c0", 2);
        lawIs(all, 3, 4, 0, 0, 0);
        fault("", 0);
        fault("s2d3f4b1c5s2", 10);
        fault("s2d3f4b1c5c5", 10);
    }

    private static void eachOnce() {
        of("9: each once");
        for (int r = 0; r < 5; r++) {
            char c = LETTERS.charAt(r), other = LETTERS.charAt((r + 1) % 5);
            fault(c + "1" + c + "1", 2);
            fault(c + "1 " + other + "1 " + c + "1", 6);
        }
        fault("f0f0", 2);
        fault("b0 b1", 3);
        fault("c0c", 2);
    }

    private static void eachWithANumber() {
        of("9: each with a number");
        for (int r = 0; r < 5; r++) {
            char c = LETTERS.charAt(r);
            fault("" + c, 1);
            fault(c + "   ", 4);
            fault("" + c + c, 1);
            fault(c + " x1", 2);
            fault(c + "-1", 1);
            fault(c + "+1", 1);
        }
    }

    private static void othersStay() {
        of("9: others stay");
        FishSteps x = new FishSteps();
        law(x, "s50 c9", 2);
        lawIs(x, 50, 1, 1, 0, 9);
        law(x, "d2", 1);
        lawIs(x, 50, 2, 1, 0, 9);
    }

    private static void boundsOfTheNumbers() {
        of("9: of a number that may not be its first byte");
        for (int r = 0; r < 5; r++) {
            char c = LETTERS.charAt(r);
            FishSteps x = new FishSteps();
            law(x, "" + c + RULE_LEAST[r], 1);
            due("the least", x.rule(r, RULE_LEAST[r]), RULE_LEAST[r]);
            law(x, "" + c + RULE_MOST[r], 1);
            due("the greatest", x.rule(r, RULE_LEAST[r]), RULE_MOST[r]);
            if (RULE_LEAST[r] > 0) fault("" + c + (RULE_LEAST[r] - 1), 1);
            fault("" + c + (RULE_MOST[r] + 1), 1);
            fault(c + "00" + (RULE_MOST[r] + 1), 1);
            fault(c + "  100", 3);
            fault(c + "256", 1);
            fault(c + "1001", 1);
            // 2 to the 32nd and the 64th, and 1: each would wrap around to 1
            fault(c + "4294967297", 1);
            fault(c + "18446744073709551617", 1);
            fault(c + "99999999999999999999999999999999999999999999999999999999999", 1);
        }
        fault("s50 d9 f10 b2 c0", 12);
        fault("b2x", 1);
        fault("d10 0", 1);
    }

    private static void noughtsAhead() {
        of("9: a number may have 0s ahead");
        FishSteps x = new FishSteps();
        law(x, "s007 d09 f00 b01 c0000", 5);
        lawIs(x, 7, 9, 0, 1, 0);
        law(x, "s0000000000000000000000000000000000000000000000000000000099", 1);
        lawIs(x, 99, 9, 0, 1, 0);
        fault("s000", 1);
        fault("d0000", 1);
    }

    private static void blanksCountForNothing() {
        of("9: bytes 32 count for nothing, but end a number");
        FishSteps x = new FishSteps();
        law(x, "    s   50    d  2     ", 2);
        lawIs(x, 50, 2, 1, 0, 0);
        fault("s5 0", 3);
        fault("s50 0", 4);
        fault("s5 0d2", 3);
        fault("c0 0", 3);
        fault("s1 d1 1", 6);
    }

    private static void thePlaceOfTheFirst() {
        of("9: -20 less the place of the first byte (behind blanks) that can't stand there (the end: how many bytes there are)");
        fault(" ", 1);
        fault("        ", 8);
        fault("x", 0);
        fault("   x", 3);
        fault("1", 0);
        fault("S50", 0);
        fault("s50;", 3);
        fault("s50   x", 6);
        fault("s50x d99", 3);
        fault("s50 s0", 4);
        fault("s50d", 4);
        fault("s50d  ", 6);
        fault("s50d  x", 6);
        fault("e1", 0);
        fault("s50~", 3);
        String blanks = "                                                            ";
        fault(blanks, 60);
        fault(blanks.substring(1) + "s", 60);
        fault(blanks.substring(1) + "x", 59);
        fault("s" + blanks.substring(1), 60);
        fault("s" + blanks.substring(2) + "x", 59);
        fault("s5" + blanks.substring(3) + "0", 59);
        FishSteps x = new FishSteps();
        law(x, blanks.substring(2) + "s5", 1);
        law(x, "s" + blanks.substring(2) + "6", 1);
        law(x, "s7" + blanks.substring(2), 1);
        lawIs(x, 7, 1, 1, 0, 0);
    }

    private static void rulesEmptyTheTape() {
        of("9: THE TAPE is empty then (by a FAULT, too)");
        FishSteps x = new FishSteps();
        law(x, "s50", 1);
        due("rules() of the empty one", x.rules(), -20);
        law(x, "s0", -21);
        due("rules() of the empty one", x.rules(), -20);
        due("type", x.type(0x73L, 1), 1);
        due("rules()", x.rules(), -21);
        due("type", x.type(0x3535L, 2), 2);
        due("rules() of what came since", x.rules(), -20);
        lawIs(x, 50, 1, 1, 0, 0);
    }

    // ---- promise 10

    private static void lotsFault(String text, int place) {
        FishSteps x = new FishSteps();
        lots(x, "3210");
        due("lots of \"" + text + "\"", lots(x, text), -20 - place);
        due("type behind \"" + text + "\"", x.type(32, 1), 1);
        due("count(0) behind \"" + text + "\"", x.count(0), 4);
        for (int k = 0; k < 4; k++) due("lot(" + k + ", 0) behind \"" + text + "\"", x.lot(k, 0), 3 - k);
        due("lot(4, 0) behind \"" + text + "\"", x.lot(4, 0), -1);
    }

    private static void fromOneToSix() {
        of("10: 1 to 6 digits 0 .. 3");
        String six = "012332";
        for (int n = 1; n <= 6; n++) {
            FishSteps x = new FishSteps();
            due("lots of " + n, lots(x, six.substring(0, n)), n);
            due("count(0)", x.count(0), n);
            for (int k = 0; k < n; k++) due("lot(" + k + ", 0)", x.lot(k, 0), six.charAt(k) - '0');
            due("lot(" + n + ", 0)", x.lot(n, 0), -1);
        }
        lotsFault("", 0);
        lotsFault("0123321", 6);
        lotsFault("0 1 2 3 3 2 1", 12);
        lotsFault("01233212", 6);
        lotsFault("012332x", 6);
        for (char c = '0'; c <= '3'; c++) due("lots of " + c, lots(new FishSteps(), "" + c), 1);
        lotsFault("4", 0);
        lotsFault("/", 0);
        lotsFault("9", 0);
        lotsFault("04", 1);
        lotsFault("0/", 1);
    }

    private static void lotsPlaceOfTheFirst() {
        of("10: FAULTS: the first byte (behind blanks) that can't stand there (the end: how many bytes there are)");
        lotsFault(" ", 1);
        lotsFault("      ", 6);
        lotsFault("x0", 0);
        lotsFault("  x0", 2);
        lotsFault("0  x", 3);
        lotsFault("0,1", 1);
        lotsFault("-1", 0);
        lotsFault("s1", 0);
        lotsFault("0 4 x", 2);
        String blanks = "                                                            ";
        lotsFault(blanks, 60);
        lotsFault(blanks.substring(1) + "4", 59);
        FishSteps x = new FishSteps();
        due("lots at the end", lots(x, blanks.substring(1) + "3"), 1);
        due("lots at both ends", lots(x, "2" + blanks.substring(2) + "1"), 2);
        due("lots ahead of blanks", lots(x, "21" + blanks.substring(2)), 2);
    }

    private static void inPlaceOfThoseTold() {
        of("10: in place of those told");
        FishSteps x = new FishSteps();
        lots(x, "012301");
        due("lots of one", lots(x, "3"), 1);
        due("count(0)", x.count(0), 1);
        due("count(4)", x.count(4), 1);
        due("lot(0, 0)", x.lot(0, 0), 3);
        due("lot(1, 0)", x.lot(1, 0), -1);
        due("order(1)", x.order(1), -4);
    }

    private static void lotsEmptyTheTape() {
        of("10: THE TAPE is empty then (by a FAULT, too)");
        FishSteps x = new FishSteps();
        due("lots", lots(x, "01"), 2);
        due("lots() of the empty one", x.lots(), -20);
        due("lots", lots(x, "014"), -22);
        due("lots() of the empty one", x.lots(), -20);
        due("rules() of the empty one", x.rules(), -20);
        due("count(0)", x.count(0), 2);
    }

    // ---- promise 11

    private static void boundsOfCount() {
        of("11: 0 LOTS, 1 BUYERS, 2 MORNINGS held, 3 who owe, 4 KINDS among LOTS. BAD");
        FishSteps x = house("s60", "0120");
        x.buyer(0, 1);
        x.buyer(0, 1);
        x.morning();
        int[] due = {4, 2, 1, 0, 3};
        for (int what = 0; what < 5; what++) due("count(" + what + ")", x.count(what), due[what]);
        for (int no : new int[] {-1, 5, MIN, MAX}) due("count(" + no + ")", x.count(no), -1);
    }

    private static void whoOwe() {
        of("11: who owe (PURSE below 0)");
        FishSteps x = house("s60 f10 c99", "000");
        come(x, 4, 60, 60, 0);
        come(x, 4, 58, 59, 0);
        come(x, 4, 57, 58, 1);
        come(x, 0, 0, 60, 0);
        due("count(3)", x.count(3), 0);
        due("morning()", x.morning(), 60 + 59 + 57);
        // purses of 0, -1, 0 and 0
        due("told(1, 6)", x.told(1, 6), -1);
        due("count(3)", x.count(3), 1);
        x.morning();
        due("count(3)", x.count(3), 3);
        x.earn(0, 60);
        due("count(3)", x.count(3), 2);
    }

    private static void kindsAmongLots() {
        of("11: KINDS among LOTS");
        String[] kinds = {"0", "3", "33", "03", "30", "0123", "012301", "111110", "123"};
        int[] due = {1, 1, 1, 2, 2, 4, 4, 2, 3};
        FishSteps x = new FishSteps();
        due("count(4) without lots", x.count(4), 0);
        for (int i = 0; i < kinds.length; i++) {
            lots(x, kinds[i]);
            due("count(4) of " + kinds[i], x.count(4), due[i]);
        }
    }

    public static void main(String[] args) {
        aNewObject();
        rulesAtFirst();
        objectsApart();
        boundsOfRules();
        noSuchRule();
        buyersAsTheyCome();
        boundsOfABuyer();
        worthsAndMarginsAtFirst();
        boundsOfWorth();
        noSuchKindOrBuyer();
        boundsOfMargin();
        boundsOfTold();
        boundsOfEarn();
        aPurseBelowNought();
        boundsOfHowManyBytes();
        theHighestFirst();
        boundsOfAByte();
        bytesAboveTheLowest();
        theTapeIsFull();
        fromOneToFive();
        eachOnce();
        eachWithANumber();
        othersStay();
        boundsOfTheNumbers();
        noughtsAhead();
        blanksCountForNothing();
        thePlaceOfTheFirst();
        rulesEmptyTheTape();
        fromOneToSix();
        lotsPlaceOfTheFirst();
        inPlaceOfThoseTold();
        lotsEmptyTheTape();
        boundsOfCount();
        whoOwe();
        kindsAmongLots();
        end();
    }
}
