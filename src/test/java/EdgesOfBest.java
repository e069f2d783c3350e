/** Part 3 and promises 14, 18 to 23: rising and sealed, best margins, rests, orders, rings, images. */
public final class EdgesOfBest extends Asks {

    // ---- 14, RISING

    private static void risingAlone() {
        of("RISING: (if he is alone: for FLOOR)");
        for (int floor : new int[] {0, 1, 49, 50}) {
            FishSteps x = house("f" + floor, "0");
            come(x, 0, 50, 50, 40);
            due("till(1) by FLOOR " + floor, x.till(1), floor);
        }
        FishSteps x = house("f20", "0");
        come(x, 0, 900, 50, 0);
        come(x, 0, 900, 19, 0);
        come(x, 0, 19, 40, 0);
        due("beside one of less worth, one who can't pay", x.till(1), 20);
    }

    private static void risingFloor() {
        of("RISING: that CAN pay FLOOR and have a WORTH no less than FLOOR");
        FishSteps x = house("f20", "0");
        come(x, 0, 20, 20, 0);
        due("just both", x.till(1), 20);
        x.worth(0, 0, 19);
        due("of less worth", x.till(1), 0);
        FishSteps poor = house("f20", "0");
        come(poor, 0, 19, 20, 0);
        due("who can't pay", poor.till(1), 0);
        FishSteps credit = house("f20 c5", "0");
        come(credit, 4, 15, 20, 0);
        due("just on credit", credit.till(1), 20);
        credit.rule(4, 4);
        due("not on credit", credit.till(1), 0);
    }

    private static void risingByOne() {
        of("RISING: for 1 more than the second greatest WORTH of these");
        int[][] worths = {{50, 40, 30}, {50, 30, 40}, {30, 50, 40}, {40, 50, 30}, {30, 40, 50}, {40, 30, 50}};
        for (int[] w : worths) {
            FishSteps x = house("f20", "0");
            for (int b = 0; b < 3; b++) come(x, b, 900, w[b], 9);
            due("till(1)", x.till(1), 41);
        }
        FishSteps start = house("s9 f5", "0");
        come(start, 0, 900, 50, 0);
        come(start, 0, 900, 40, 0);
        due("above START", start.till(1), 41);
        FishSteps second = house("f20", "0");
        come(second, 0, 900, 50, 0);
        come(second, 0, 20, 40, 0);
        due("the second need but be able to pay FLOOR", second.till(1), 41);
        FishSteps floor = house("f20", "0");
        come(floor, 0, 900, 50, 0);
        come(floor, 0, 900, 20, 0);
        due("the second's WORTH is FLOOR", floor.till(1), 21);
    }

    private static void risingOwnWorth() {
        of("RISING: no more than his own WORTH");
        FishSteps x = house("f20", "0");
        come(x, 0, 900, 50, 0);
        come(x, 0, 900, 50, 0);
        due("like worths", x.till(1), 50);
        x.worth(1, 0, 49);
        due("one less", x.till(1), 50);
        x.worth(1, 0, 48);
        due("two less", x.till(1), 49);
        FishSteps nought = house("f0", "0");
        come(nought, 0, 900, 0, 0);
        come(nought, 0, 900, 0, 0);
        due("of no worth", nought.till(1), 0);
        nought.worth(1, 0, 1);
        due("of a worth of 1", nought.till(1), 1);
    }

    private static void risingHisPurse() {
        of("RISING: no more than he CAN pay");
        int[] purses = {20, 40, 41, 42}, tills = {20, 40, 41, 41};
        for (int i = 0; i < 4; i++) {
            FishSteps x = house("f20", "0");
            come(x, 0, purses[i], 50, 0);
            come(x, 0, 900, 40, 0);
            due("till(1) by a purse of " + purses[i], x.till(1), tills[i]);
            FishSteps credit = house("f20 c15", "0");
            come(credit, 4, purses[i] - 15, 50, 0);
            come(credit, 0, 900, 40, 0);
            due("till(1) by a purse of " + purses[i] + " on credit", credit.till(1), tills[i]);
        }
    }

    private static void risingFirst() {
        of("RISING: to whom it is WORTH most (first by numbers)");
        FishSteps x = house("f20", "01");
        come(x, 0, 900, 50, 0);
        come(x, 0, 900, 50, 0);
        x.worth(0, 1, 10);
        x.worth(1, 1, 30);
        // 0 has the first, so 1, alone, the second for 20
        due("till(1)", x.till(1), 70);
        x.worth(0, 1, 30);
        x.worth(1, 1, 10);
        due("till(1)", x.till(1), 50);
        FishSteps nought = house("f0", "01");
        come(nought, 0, 900, 0, 0);
        come(nought, 0, 900, 0, 0);
        nought.worth(0, 1, 50);
        nought.worth(1, 1, 30);
        due("he has room no more, though it was of no worth", nought.till(1), 0);
    }

    private static void risingRoom() {
        of("RISING: of those with ROOM");
        FishSteps x = house("f10", "000");
        come(x, 0, 900, 50, 0);
        come(x, 2, 900, 40, 0);
        // 41, then 1 alone twice
        due("till(1)", x.till(1), 61);
        lots(x, "0000");
        due("till(1) of a lot more", x.till(1), 61);
    }

    private static void risingByNoMargin() {
        of("RISING: by WORTH, not LIMIT; the DEAF as others");
        FishSteps x = house("f10", "0");
        come(x, 1, 900, 50, 40);
        come(x, 3, 900, 30, 0);
        due("till(1)", x.till(1), 31);
    }

    // ---- 14, SEALED

    private static void sealedFloor() {
        of("SEALED: whose LIMIT is no less than FLOOR");
        FishSteps x = house("f20", "0");
        come(x, 0, 900, 25, 5);
        due("LIMIT is FLOOR", x.till(2), 20);
        x.margin(0, 6);
        due("LIMIT is less", x.till(2), 0);
        FishSteps nought = house("f0", "00");
        come(nought, 0, 0, 9, 9);
        come(nought, 2, 50, 30, 0);
        due("LIMIT of 0", nought.till(2), 30);
        nought.margin(0, 10);
        due("LIMIT below 0", nought.till(2), 30);
    }

    private static void sealedPay() {
        of("SEALED: and that CAN pay that LIMIT");
        FishSteps x = house("f20", "0");
        come(x, 0, 50, 50, 0);
        come(x, 0, 900, 30, 0);
        due("just", x.till(2), 50);
        x.worth(0, 0, 51);
        due("not", x.till(2), 30);
        FishSteps credit = house("f20 c9", "0");
        come(credit, 4, 41, 50, 0);
        come(credit, 0, 900, 30, 0);
        due("just on credit", credit.till(2), 50);
        credit.rule(4, 8);
        due("not on credit", credit.till(2), 30);
        credit.rule(2, 31);
        due("nobody", credit.till(2), 0);
    }

    private static void sealedGreatest() {
        of("SEALED: to the greatest LIMIT (first by numbers), for it");
        FishSteps x = house("s9 f5", "01");
        come(x, 3, 900, 50, 21);
        come(x, 1, 900, 50, 10);
        come(x, 0, 900, 60, 20);
        // 40, 40 and 40: 0 has the first, so 1 the second for less
        x.worth(0, 1, 99);
        x.worth(1, 1, 30);
        x.worth(2, 1, 20);
        due("till(2)", x.till(2), 40 + 20);
        x.margin(0, 22);
        // 39, 40 and 40: 1 has the first, 0 the second for 88
        due("till(2)", x.till(2), 40 + 88);
        x.margin(2, 19);
        due("till(2)", x.till(2), 41 + 88);
    }

    private static void sealedRoom() {
        of("SEALED: of those with ROOM");
        FishSteps x = house("f10", "0000");
        come(x, 0, 900, 50, 0);
        come(x, 2, 900, 40, 0);
        due("till(2)", x.till(2), 130);
    }

    private static void fallingByMargins() {
        of("0 FALLING as told");
        FishSteps x = house("s60 f10", "0");
        come(x, 0, 900, 50, 20);
        come(x, 0, 900, 40, 0);
        due("till(0)", x.till(0), 40);
        due("order(-1)", x.order(-1), 40);
        due("till(1)", x.till(1), 41);
        due("till(2)", x.till(2), 40);
    }

    // ---- 18

    private static void bestFromNoughtToForty() {
        of("BEST of a BUYER: that MARGIN (0 .. 40) by which his GAIN is most");
        FishSteps x = house("s60 f0", "0");
        come(x, 0, 900, 50, 7);
        due("best(0), alone", x.best(0), 40);
        x.rule(2, 10);
        due("best(0), just by FLOOR", x.best(0), 40);
        x.rule(2, 11);
        due("best(0), FLOOR", x.best(0), 39);
        x.rule(2, 50);
        due("best(0), no gain", x.best(0), 0);
        x.rule(0, 49);
        x.rule(2, 1);
        due("best(0), START", x.best(0), 40);
        x.rule(0, 10);
        due("best(0), the same by all: the least", x.best(0), 0);
        x.rule(0, 11);
        due("best(0), by 39 at 11, by 40 at 10", x.best(0), 40);
    }

    private static void bestLeast() {
        of("BEST: of like ones the least");
        FishSteps x = house("s60 d9 f1", "0");
        come(x, 0, 900, 50, 0);
        // 60 51 42 33 24 15: by 36 .. 40 it comes to 10 .. 14, so for 6; by 35 for 15
        due("best(0)", x.best(0), 36);
        FishSteps bold = house("s60 f1", "0");
        come(bold, 3, 900, 50, 0);
        due("best of a bold one: by 40, as half of it is 20", bold.best(0), 40);
        bold.rule(2, 31);
        due("best of a bold one: 38 and 39 bring 19 off", bold.best(0), 38);
        FishSteps two = house("s60 f1", "0");
        come(two, 0, 900, 50, 0);
        come(two, 0, 900, 45, 3);
        due("best(0): he is first at 42", two.best(0), 8);
        due("best(1): no gain by any", two.best(1), 0);
    }

    private static void bestBelowNought() {
        of("BEST: GAIN is most, be it below 0");
        FishSteps x = house("s60 d4 b1", "0");
        come(x, 0, 900, 48, 0);
        come(x, 1, 900, 52, 0);
        // by 0 he gains -5 (57 by the bell); by 1 he hears 48 and coughs at 44, which the other has had
        due("gain(1)", x.gain(1), -5);
        due("best(1)", x.best(1), 1);
        FishSteps ever = house("s60 d4 b1", "0");
        come(ever, 0, 900, 8, 0);
        come(ever, 1, 900, 12, 0);
        x = ever;
        due("gain(1)", x.gain(1), 12 - 17);
        x.worth(0, 0, 12);
        due("best(1) beside a higher one", x.best(1), 0);
    }

    private static void bestOthersStay() {
        of("BEST: all others as they are");
        FishSteps x = house("s60 f1", "0");
        come(x, 0, 900, 50, 0);
        come(x, 0, 900, 45, 15);
        due("best(0)", x.best(0), 20);
        due("told(0, 1)", x.told(0, 1), 0);
        due("told(1, 1)", x.told(1, 1), 15);
        x.margin(1, 14);
        due("best(0)", x.best(0), 19);
    }

    private static void boundsOfBest() {
        of("18: BEST. BAD");
        FishSteps x = new FishSteps();
        for (int b = 0; b < 5; b++) {
            due("best(" + b + ")", x.best(b), -1);
            x.buyer(0, 9);
            due("best(" + b + ")", x.best(b), 0);
        }
        for (int no : new int[] {-1, 5, MIN, MAX}) due("best(" + no + ")", x.best(no), -1);
    }

    // ---- 19

    private static void boundsOfRests() {
        of("19: how many (-1), MARGIN of a BUYER (0 .. 4). BAD; NOT: there is no BUYER; NONE: there is no such BUYER");
        FishSteps x = house("s10 f1", "0");
        for (int n = 0; n <= 5; n++) {
            for (int no : new int[] {-2, 5, MIN, MAX}) due("rests(" + no + ") of " + n, x.rests(no), -1);
            if (n == 0) due("rests(-1) of none", x.rests(-1), -2);
            for (int b = 0; b < 5; b++) due("rests(" + b + ") of " + n, x.rests(b), n == 0 ? -2 : b < n ? 0 : -4);
            if (n < 5) come(x, 0, 900, 50, 0);
        }
    }

    private static void restsAlike() {
        of("RESTS: by which none of them would GAIN more");
        FishSteps x = house("s10 f1", "0");
        come(x, 0, 900, 50, 9);
        // for 10 by any margin
        due("rests(-1)", x.rests(-1), 4);
        due("rests(0)", x.rests(0), 0);
        x.rule(0, 27);
        // for 27 by 0 .. 16, for 26 by 24
        due("rests(-1)", x.rests(-1), 1);
        due("rests(0)", x.rests(0), 24);
        for (int b = 1; b < 5; b++) come(x, 0, 0, 0, 0);
        // the others can gain nothing by any margin: 4 * 4 * 4 * 4 rows
        due("rests(-1)", x.rests(-1), 256);
        due("rests(0)", x.rests(0), 24);
        for (int b = 1; b < 5; b++) due("rests(" + b + ")", x.rests(b), 0);
        x.rule(0, 10);
        due("rests(-1), all rows", x.rests(-1), 1024);
        due("told(0, 1)", x.told(0, 1), 9);
    }

    private static void restsByNought() {
        of("RESTS: by another one of these four, 0 too");
        FishSteps x = house("s51 f1", "0");
        come(x, 0, 900, 50, 0);
        come(x, 0, 900, 55, 0);
        // 1 by 0 has it at 51 ahead of 0; (0, 0) and (8, 8) rest: by (0, 8) and more, 1 would gain 4 by 0
        due("rests(-1)", x.rests(-1), 2);
        due("rests(0)", x.rests(0), 0);
        due("rests(1)", x.rests(1), 0);
        x.rule(0, 50);
        // now 0 by 0 coughs at START too, and is first
        due("rests(0)", x.rests(0), 0);
        due("rests(1)", x.rests(1), 0);
    }

    private static void restsFirstAsARow() {
        of("RESTS: the first as a row");
        FishSteps x = house("s60 f1", "01");
        come(x, 0, 900, 50, 0);
        come(x, 0, 900, 50, 0);
        x.worth(0, 1, 0);
        x.worth(1, 0, 0);
        // each is alone for his kind: both by 24
        due("rests(-1)", x.rests(-1), 1);
        due("rests(0)", x.rests(0), 24);
        due("rests(1)", x.rests(1), 24);
        lots(x, "0");
        due("rests(-1)", x.rests(-1), 4);
        due("rests(0)", x.rests(0), 24);
        due("rests(1)", x.rests(1), 0);
        lots(x, "1");
        due("rests(-1)", x.rests(-1), 4);
        due("rests(0)", x.rests(0), 0);
        due("rests(1)", x.rests(1), 24);
    }

    private static void noRowRests() {
        of("19: NONE: no such row (0 ..)");
        FishSteps x = house("s86 f1", "01");
        come(x, 0, 60, 25, 0);
        come(x, 2, 160, 45, 0);
        x.worth(0, 1, 45);
        x.worth(1, 1, 50);
        due("rests(-1)", x.rests(-1), 0);
        due("rests(0)", x.rests(0), -4);
        due("rests(1)", x.rests(1), -4);
        due("rests(2), no such BUYER", x.rests(2), -4);
        lots(x, "0");
        due("rests(-1) behind it", x.rests(-1) > 0 ? 1 : 0, 1);
        due("rests(1) behind it", x.rests(1) >= 0 ? 1 : 0, 1);
        lots(x, "01");
        due("rests(0) behind a row", x.rests(0), -4);
        due("rests(1) behind a row", x.rests(1), -4);
        due("rests(-1) behind a row", x.rests(-1), 0);
    }

    // ---- 20

    private static void boundsOfOrder() {
        of("20: TILL (-1), the i-th LOT (0 .. 5). BAD; NOT: there is no LOT; NONE: there is no i-th");
        FishSteps x = new FishSteps();
        come(x, 0, 900, 50, 0);
        for (int n = 0; n <= 6; n++) {
            if (n > 0) lots(x, "012301".substring(0, n));
            for (int no : new int[] {-2, 6, MIN, MAX}) due("order(" + no + ") of " + n, x.order(no), -1);
            due("order(-1) of " + n, x.order(-1), n == 0 ? -2 : 50);
            for (int i = 0; i < 6; i++) due("order(" + i + ") of " + n, x.order(i), n == 0 ? -2 : i < n ? i : -4);
        }
    }

    private static void orderThatBringsMost() {
        of("ORDER of LOTS: that by which TILL is most");
        FishSteps x = house("s99 f1", "012301");
        int[] worths = {10, 20, 30, 40};
        for (int b = 0; b < 2; b++) {
            x.buyer(0, 900);
            for (int k = 0; k < 4; k++) x.worth(b, k, worths[k]);
        }
        due("till(0)", x.till(0), 10 + 20);
        due("order(-1)", x.order(-1), 30 + 40);
        int[] row = {2, 3, 0, 1, 4, 5};
        for (int i = 0; i < 6; i++) due("order(" + i + ")", x.order(i), row[i]);
        due("lot(0, 0): LOTS stay", x.lot(0, 0), 0);
        due("till(0)", x.till(0), 30);
    }

    private static void orderFirstOfLike() {
        of("ORDER: of like ones the first (as a row of numbers)");
        FishSteps x = house("s60 f1", "100");
        come(x, 0, 900, 50, 0);
        x.worth(0, 1, 20);
        due("order(-1)", x.order(-1), 50);
        int[] row = {1, 0, 2};
        for (int i = 0; i < 3; i++) due("order(" + i + ")", x.order(i), row[i]);
        FishSteps like = house("s60 f1", "312030");
        come(like, 0, 900, 50, 0);
        due("order(-1)", like.order(-1), 50);
        for (int i = 0; i < 6; i++) due("order(" + i + ")", like.order(i), i);
        FishSteps last = house("s60 f1", "000001");
        come(last, 0, 900, 20, 0);
        last.worth(0, 1, 50);
        int[] late = {5, 0, 1, 2, 3, 4};
        due("order(-1)", last.order(-1), 50);
        for (int i = 0; i < 6; i++) due("order(" + i + ")", last.order(i), late[i]);
    }

    private static void orderBackwards() {
        of("ORDER: all rows are looked at, the last one too");
        int[][] worths = {{40, 0, 10, 10}, {40, 45, 30, 5}, {50, 45, 10, 0}, {20, 25, 45, 45}};
        FishSteps x = house("s60 f1", "0123");
        for (int b = 0; b < 4; b++) {
            x.buyer(0, 900);
            for (int k = 0; k < 4; k++) x.worth(b, k, worths[b][k]);
        }
        // 3 to the last buyer, 2 to 1, 1 to 2, 0 to 0; each of the other 23 rows brings 150 at most
        due("order(-1)", x.order(-1), 45 + 30 + 45 + 40);
        for (int i = 0; i < 4; i++) due("order(" + i + ")", x.order(i), 3 - i);
    }

    // ---- 21

    private static void boundsOfRing() {
        of("21: BAD less 100000: also a set of fewer than two, of BUYERS that are not there");
        FishSteps x = house("s60", "0");
        for (int n = 0; n <= 5; n++) {
            for (int set = -2; set < 70; set++) {
                boolean good = set >= 0 && set < 1 << n && Integer.bitCount(set) > 1;
                due("ring(" + set + ") of " + n, x.ring(set), good ? 0 : -100001);
            }
            for (int no : new int[] {MIN, MAX, MIN + 3}) due("ring(" + no + ") of " + n, x.ring(no), -100001);
            x.buyer(0, 9);
        }
    }

    /** What a ring does is told by `which`: that the morning by it, and no other set, has these items. */
    private static void mornings(FishSteps x, int set, int... items) {
        x.sheet(0, 1, items.length);
        for (int i = 0; i < items.length; i++) x.item(0, 1, i, items[i]);
        due("which: the least", x.which(0, 1, 0, 1), set);
    }

    private static void ringOfTheGreatestWorth() {
        of("of a LOT only that one of it COUGHS that has ROOM and the greatest WORTH (first by numbers)");
        FishSteps x = house("s60 f1", "00");
        come(x, 0, 900, 40, 0);
        come(x, 0, 900, 50, 30);
        come(x, 0, 900, 50, 20);
        mornings(x, 0, 0, 40, 2, 30);
        // of 0 and 1 the greatest is 1 (LIMIT 20): 2 has the first for 30, 1 the second for 20
        mornings(x, 3, 2, 30, 1, 20);
        due("ring(3)", x.ring(3), 30 - 0);
        // of 1 and 2 the first by numbers is 1: 0 has the first; then 1 for 20
        mornings(x, 6, 0, 40, 1, 20);
        due("ring(6)", x.ring(6), 30 - 20);
        // of all: 1 for 20, then 2 for 30
        mornings(x, 7, 1, 20, 2, 30);
        due("ring(7)", x.ring(7), 30 + 20 - 20);
    }

    private static void ringRoom() {
        of("of a RING only that one COUGHS that has ROOM");
        FishSteps x = house("s60 f1", "000");
        come(x, 0, 900, 50, 0);
        come(x, 2, 900, 40, 0);
        come(x, 0, 900, 30, 0);
        mornings(x, 0, 0, 50, 1, 40, 1, 40);
        FishSteps y = house("s60 f1", "000");
        come(y, 0, 900, 50, 25);
        come(y, 0, 900, 40, 0);
        come(y, 0, 900, 30, 0);
        mornings(y, 0, 1, 40, 2, 30, 0, 25);
        // by 0 and 1: 2 has the first for 30, 0 the second for 25, then 1 the third for 40
        mornings(y, 3, 2, 30, 0, 25, 1, 40);
        due("ring(3)", y.ring(3), 0);
        due("ring(7)", y.ring(7), 0);
    }

    private static void ringWhoCantPay() {
        of("RING: in all else it goes as told: who CAN'T pay does not cough, though he is the one");
        FishSteps x = house("s60 f11", "0");
        come(x, 0, 10, 50, 0);
        come(x, 0, 900, 40, 5);
        due("gain(1)", x.gain(1), 5);
        due("ring(3)", x.ring(3), -5);
        x.rule(2, 10);
        due("ring(3)", x.ring(3), 40 - 5);
    }

    private static void ringAtNought() {
        of("RING: the greatest WORTH may be 0");
        FishSteps x = house("s3 f0", "0");
        come(x, 0, 9, 0, 0);
        come(x, 0, 9, 0, 0);
        x.sheet(0, 0, 2);
        x.film(0, 0, 0);
        due("which(0, 0, 0, 0)", x.which(0, 0, 0, 0), 2);
        due("lot(0, 1)", x.lot(0, 1), 0);
    }

    private static void ringAndBell() {
        of("RING: alone of it, no bell rings for two of it");
        FishSteps x = house("s60 d4 b1", "0");
        come(x, 0, 900, 48, 0);
        come(x, 0, 900, 49, 0);
        due("gain(1), by the bell", x.gain(1), 0);
        mornings(x, 3, 1, 48);
        due("ring(3)", x.ring(3), 1);
    }

    private static void ringOfTheDeaf() {
        of("RING: a DEAF one of it coughs as told");
        FishSteps x = house("s60 d5 f1", "0");
        come(x, 1, 900, 55, 0);
        come(x, 0, 900, 50, 0);
        // both at 50: 0 has it; alone at 50 too
        due("gain(0)", x.gain(0), 5);
        due("ring(3)", x.ring(3), 0);
        x.worth(0, 0, 54);
        // 1 at 50; by the ring 0, who hears 50 at 45
        due("gain(1)", x.gain(1), 0);
        due("ring(3)", x.ring(3), 9);
    }

    // ---- 22, 23

    private static void noImage() {
        of("23: NONE: there is none");
        FishSteps x = new FishSteps();
        due("restore()", x.restore(), -4);
        x.buyer(0, 9);
        due("restore()", x.restore(), -4);
        due("count(1)", x.count(1), 1);
        due("image()", x.image(), 1);
        due("restore()", x.restore(), 1);
        due("restore() again", x.restore(), 1);
    }

    private static void imageOfNothing() {
        of("22: an IMAGE of a new object");
        FishSteps x = new FishSteps();
        x.image();
        rules(x, "s9 d9 f9 b1 c9");
        lots(x, "0123");
        for (int b = 0; b < 5; b++) come(x, 4 - b, 99, 50 + b, 5);
        x.morning();
        due("hush() would not be 0", x.span(0, 0, 0) > 0 ? 1 : 0, 1);
        due("restore()", x.restore(), 1);
        for (int what = 0; what < 5; what++) due("count(" + what + ")", x.count(what), 0);
        lawIs(x, 60, 1, 1, 0, 0);
        due("hush()", x.hush(), 0);
        x.buyer(3, 7);
        int[] told = {3, 0, 0, 0, 0, 0, 7};
        for (int what = 0; what < 7; what++) due("told(0, " + what + ")", x.told(0, what), told[what]);
        spanIs(x, 0, 0, 0, 99);
    }

    private static void imageOfAll() {
        of("22: All but SHEETS, THE TAPE is kept; 23: All is as it was then");
        FishSteps x = house("s60 d2 f3 b1 c30", "01");
        come(x, 4, 20, 50, 5);
        come(x, 0, 900, 40, 7);
        x.morning();
        x.image();
        int owed = x.told(0, 6);
        rules(x, "s61 d3 f4 b0 c31");
        lots(x, "32100");
        for (int b = 0; b < 2; b++) {
            for (int k = 0; k < 4; k++) x.worth(b, k, 60 + k);
            x.margin(b, 1);
            x.earn(b, 500);
        }
        x.buyer(1, 1);
        x.morning();
        x.restore();
        lawIs(x, 60, 2, 3, 1, 30);
        due("count(0)", x.count(0), 2);
        due("count(1)", x.count(1), 2);
        due("count(2)", x.count(2), 1);
        due("count(3)", x.count(3), 1);
        for (int k = 0; k < 2; k++) due("lot(" + k + ", 0)", x.lot(k, 0), k);
        int[][] told = {{4, 5, 50, 50, 50, 50, owed}, {0, 7, 40, 40, 40, 40, 900 - 32}};
        for (int b = 0; b < 2; b++) {
            for (int what = 0; what < 7; what++) due("told(" + b + ", " + what + ")", x.told(b, what), told[b][what]);
        }
        // 0 had the first for 44, 1 the second for 32
        due("owed", owed, 20 - 44);
        spanIs(x, 0, 0, 49, 99);
        spanIs(x, 1, 0, 0, 50);
        spanIs(x, 1, 1, 39, 99);
        spanIs(x, 0, 3, 0, 99);
    }

    private static void imageOfFive() {
        of("22, 23: all of five buyers and four kinds");
        FishSteps x = house("s99 f1", "012301");
        for (int b = 0; b < 5; b++) {
            x.buyer(b, 900 + b);
            x.margin(b, 3 * b);
            for (int k = 0; k < 4; k++) x.worth(b, k, 20 + 9 * k + 7 * ((b + k) % 5));
        }
        x.morning();
        int[] told = new int[35], spans = new int[40];
        for (int i = 0; i < 35; i++) told[i] = x.told(i / 7, i % 7);
        for (int i = 0; i < 40; i++) spans[i] = x.span(i / 8, i / 2 % 4, i % 2);
        x.image();
        x.hush();
        for (int b = 0; b < 5; b++) {
            x.margin(b, 40);
            x.earn(b, 1);
            for (int k = 0; k < 4; k++) x.worth(b, k, 99 - x.told(b, 2 + k));
        }
        x.restore();
        for (int i = 0; i < 35; i++) due("told(" + i / 7 + ", " + i % 7 + ")", x.told(i / 7, i % 7), told[i]);
        for (int i = 0; i < 40; i++) {
            due("span(" + i / 8 + ", " + i / 2 % 4 + ", " + i % 2 + ")", x.span(i / 8, i / 2 % 4, i % 2), spans[i]);
        }
        int narrowed = 0;
        for (int i = 0; i < 40; i += 2) narrowed += spans[i] != 0 || spans[i + 1] != 99 ? 1 : 0;
        due("hush()", x.hush(), narrowed);
    }

    private static void imageAnew() {
        of("22: an IMAGE in place of the one before; the tape and sheets stay by 23");
        FishSteps x = new FishSteps();
        x.rule(0, 10);
        x.image();
        x.rule(0, 20);
        x.image();
        x.rule(0, 30);
        x.sheet(2, 2, 7);
        type(x, "s4");
        due("restore()", x.restore(), 1);
        due("rule(0, 40)", x.rule(0, 40), 20);
        due("restore()", x.restore(), 1);
        due("rule(0, 40)", x.rule(0, 40), 20);
        due("drop(2)", x.drop(2), 7);
        due("rules()", x.rules(), 1);
        due("rule(0, 4)", x.rule(0, 4), 4);
    }

    public static void main(String[] args) {
        risingAlone();
        risingFloor();
        risingByOne();
        risingOwnWorth();
        risingHisPurse();
        risingFirst();
        risingRoom();
        risingByNoMargin();
        sealedFloor();
        sealedPay();
        sealedGreatest();
        sealedRoom();
        fallingByMargins();
        bestFromNoughtToForty();
        bestLeast();
        bestBelowNought();
        bestOthersStay();
        boundsOfBest();
        boundsOfRests();
        restsAlike();
        restsByNought();
        restsFirstAsARow();
        noRowRests();
        boundsOfOrder();
        orderThatBringsMost();
        orderFirstOfLike();
        orderBackwards();
        boundsOfRing();
        ringOfTheGreatestWorth();
        ringRoom();
        ringWhoCantPay();
        ringAtNought();
        ringAndBell();
        ringOfTheDeaf();
        noImage();
        imageOfNothing();
        imageOfAll();
        imageOfFive();
        imageAnew();
        end();
    }
}
