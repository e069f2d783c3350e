/** Part 2 and promises 12 to 17: who coughs, how a lot falls, what a morning leaves, and what is heard of it. */
public final class EdgesOfMornings extends Asks {

    /** A house with one lot of kind 0. */
    private static FishSteps oneLot(String law) {
        return house(law, "0");
    }

    // ---- ROOM, LIMIT, CAN

    private static void roomForOne() {
        of("ROOM: a BUYER has it, till he had one LOT in the MORNING");
        for (int sort = 0; sort < 5; sort++) {
            if (sort == 2) continue;
            FishSteps x = house("s60 c9", "000");
            come(x, sort, 900, 50, 0);
            int at = sort == 1 ? 49 : 50;
            lotIs(x, 0, 0, at, 60 - at, 0);
            lotIs(x, 1, -4, -4, 59, 0);
            lotIs(x, 2, -4, -4, 59, 0);
        }
    }

    private static void roomForTwo() {
        of("ROOM (FOR TWO: two)");
        FishSteps x = house("s60", "0100");
        come(x, 2, 900, 50, 0);
        x.worth(0, 1, 0);
        lotIs(x, 0, 0, 50, 10, 0);
        lotIs(x, 1, -4, -4, 59, 0);
        lotIs(x, 2, 0, 50, 10, 0);
        lotIs(x, 3, -4, -4, 59, 0);
    }

    private static void limit() {
        of("LIMIT for a LOT: WORTH of its KIND less MARGIN (BOLD: less half of it, cut)");
        int[] margins = {0, 1, 7, 40}, plain = {50, 49, 43, 10}, bold = {50, 50, 47, 30};
        for (int i = 0; i < margins.length; i++) {
            for (int sort = 0; sort < 5; sort++) {
                FishSteps x = house("s60", "3");
                int b = x.buyer(sort, 900);
                x.worth(b, 3, 50);
                x.margin(b, margins[i]);
                int at = sort == 3 ? bold[i] : sort == 1 ? plain[i] - 1 : plain[i];
                lotIs(x, 0, 0, at, 60 - at, 0);
            }
        }
    }

    private static void limitBelowNought() {
        of("LIMIT for a LOT: WORTH less MARGIN, which may be below 0");
        FishSteps x = oneLot("s3 f0");
        come(x, 0, 9, 7, 7);
        lotIs(x, 0, 0, 0, 3, 0);
        x.margin(0, 8);
        lotIs(x, 0, -4, -4, 3, 0);
        FishSteps bold = oneLot("s3 f0");
        come(bold, 3, 9, 7, 15);
        lotIs(bold, 0, 0, 0, 3, 0);
        bold.margin(0, 16);
        lotIs(bold, 0, -4, -4, 3, 0);
    }

    private static void canPay() {
        of("He CAN pay a PRICE, if his PURSE has it (ON CREDIT: PURSE and CREDIT)");
        for (int sort = 0; sort < 5; sort++) {
            FishSteps x = oneLot("s60 f40 c9");
            come(x, sort, 41, 60, 0);
            int at = sort == 4 ? 50 : 41;
            lotIs(x, 0, 0, at, 60 - at, 0);
            FishSteps just = oneLot("s60 f40 c9");
            come(just, sort, sort == 4 ? 31 : 40, 60, 0);
            lotIs(just, 0, 0, 40, 20, 0);
            FishSteps poor = oneLot("s60 f40 c9");
            come(poor, sort, sort == 4 ? 30 : 39, 60, 0);
            lotIs(poor, 0, -4, -4, 20, 0);
        }
    }

    private static void canPayNought() {
        of("He CAN pay a PRICE of 0, if his PURSE has 0; not if it is less than 0");
        FishSteps x = oneLot("s5 f0");
        come(x, 0, 0, 9, 0);
        lotIs(x, 0, 0, 0, 5, 0);
        FishSteps owes = oneLot("s60 f0 c30");
        come(owes, 4, 0, 60, 0);
        due("morning()", owes.morning(), 30);
        lotIs(owes, 0, 0, 0, 60, 0);
        owes.rule(4, 29);
        lotIs(owes, 0, -4, -4, 60, 0);
        owes.earn(0, 1);
        lotIs(owes, 0, 0, 0, 60, 0);
    }

    // ---- how a lot falls

    private static void priceByBreaths() {
        of("its PRICE is START at BREATH 0, and DROP less at each further BREATH");
        for (int start : new int[] {1, 50, 99}) {
            FishSteps x = oneLot("f0 s" + start);
            come(x, 0, 999, 99, 0);
            lotIs(x, 0, 0, start, 0, 0);
        }
        for (int drop = 1; drop <= 9; drop++) {
            FishSteps x = oneLot("s99 f0 d" + drop);
            come(x, 0, 999, 98, 0);
            lotIs(x, 0, 0, 99 - drop, 1, 0);
            x.worth(0, 0, 99 - drop);
            lotIs(x, 0, 0, 99 - drop, 1, 0);
            x.worth(0, 0, 98 - drop);
            lotIs(x, 0, 0, 99 - 2 * drop, 2, 0);
        }
    }

    private static void priceAtTheFloor() {
        of("PRICE below FLOOR: it goes back, that BREATH is no more");
        FishSteps x = oneLot("s60 d9 f42");
        come(x, 0, 999, 42, 0);
        lotIs(x, 0, 0, 42, 2, 0);
        x.rule(2, 43);
        lotIs(x, 0, -4, -4, 1, 0);
        x.rule(2, 51);
        lotIs(x, 0, -4, -4, 1, 0);
        x.rule(2, 52);
        lotIs(x, 0, -4, -4, 0, 0);
        x.rule(2, 60);
        lotIs(x, 0, -4, -4, 0, 0);
        x.worth(0, 0, 60);
        lotIs(x, 0, 0, 60, 0, 0);
    }

    private static void startBelowTheFloor() {
        of("12: its last BREATH (NONE: not even BREATH 0)");
        FishSteps x = oneLot("s60 f61 b1");
        come(x, 0, 999, 99, 0);
        come(x, 0, 999, 99, 0);
        lotIs(x, 0, -4, -4, -4, 0);
        x.rule(2, 99);
        lotIs(x, 0, -4, -4, -4, 0);
        x.rule(0, 99);
        x.rule(3, 0);
        lotIs(x, 0, 0, 99, 0, 0);
    }

    private static void priceOfNought() {
        of("FLOOR 0: a PRICE of 0 is not below it");
        FishSteps x = oneLot("s9 d9 f0");
        come(x, 0, 0, 0, 0);
        lotIs(x, 0, 0, 0, 1, 0);
        x.rule(0, 8);
        lotIs(x, 0, -4, -4, 0, 0);
        FishSteps nobody = oneLot("s6 d3 f0 b1");
        come(nobody, 0, 9, 0, 1);
        come(nobody, 0, 9, 0, 1);
        lotIs(nobody, 0, -4, -4, 2, 0);
        lotIs(oneLot("s6 d3 f0 b1"), 0, -4, -4, 2, 0);
    }

    private static void whoseLimitIsNoLess() {
        of("those COUGH whose LIMIT is no less than it");
        FishSteps x = oneLot("s60 d5");
        come(x, 0, 999, 50, 0);
        lotIs(x, 0, 0, 50, 2, 0);
        x.worth(0, 0, 49);
        lotIs(x, 0, 0, 45, 3, 0);
        x.worth(0, 0, 60);
        lotIs(x, 0, 0, 60, 0, 0);
        x.worth(0, 0, 59);
        lotIs(x, 0, 0, 55, 1, 0);
    }

    private static void theDeaf() {
        of("a DEAF one: than the PRICE of the BREATH ahead");
        FishSteps x = oneLot("s60 d5");
        come(x, 1, 999, 55, 0);
        lotIs(x, 0, 0, 50, 2, 0);
        x.worth(0, 0, 54);
        lotIs(x, 0, 0, 45, 3, 0);
        x.worth(0, 0, 55);
        x.margin(0, 1);
        lotIs(x, 0, 0, 45, 3, 0);
        FishSteps late = oneLot("s60 d5");
        come(late, 1, 999, 52, 0);
        come(late, 0, 999, 50, 0);
        // the deaf one, first by numbers, still hears 55 while the other coughs at 50
        lotIs(late, 0, 1, 50, 2, 0);
        late.worth(0, 0, 55);
        lotIs(late, 0, 0, 50, 2, 0);
    }

    private static void theDeafAtFirst() {
        of("a DEAF one: never at BREATH 0");
        FishSteps x = oneLot("s60 d5");
        come(x, 1, 999, 99, 0);
        lotIs(x, 0, 0, 55, 1, 0);
        x.rule(2, 55);
        lotIs(x, 0, 0, 55, 1, 0);
        x.rule(2, 56);
        lotIs(x, 0, -4, -4, 0, 0);
        come(x, 0, 999, 60, 0);
        lotIs(x, 0, 1, 60, 0, 0);
    }

    private static void theDeafPaysThePriceAsItIs() {
        of("those COUGH that CAN pay it: the DEAF one the PRICE, not that of the BREATH ahead");
        FishSteps x = oneLot("s60 d5");
        come(x, 1, 55, 99, 0);
        lotIs(x, 0, 0, 55, 1, 0);
        FishSteps poor = oneLot("s60 d5");
        come(poor, 1, 54, 99, 0);
        lotIs(poor, 0, 0, 50, 2, 0);
    }

    private static void theDeafAtTheFloor() {
        of("a DEAF one: a PRICE ahead that is FLOOR is the last that he hears");
        FishSteps x = oneLot("s10 d5 f0");
        come(x, 1, 99, 5, 0);
        lotIs(x, 0, 0, 0, 2, 0);
        x.worth(0, 0, 4);
        lotIs(x, 0, -4, -4, 2, 0);
        x.worth(0, 0, 5);
        x.rule(2, 1);
        lotIs(x, 0, -4, -4, 1, 0);
    }

    // ---- more than one, and the bell

    private static void oneAlone() {
        of("One alone has it: by BELL 1 no bell rings");
        FishSteps x = oneLot("s60 b1");
        come(x, 0, 999, 40, 0);
        come(x, 0, 999, 41, 0);
        lotIs(x, 0, 1, 41, 19, 0);
        x.rule(3, 0);
        lotIs(x, 0, 1, 41, 19, 0);
    }

    private static void firstByNumbers() {
        of("Of more, by BELL 0: the first by numbers has it");
        for (int first = 0; first < 4; first++) {
            FishSteps x = oneLot("s60 d9");
            for (int b = 0; b < 5; b++) come(x, 0, 999, b < first ? 20 : 42 + 5 - b, 0);
            lotIs(x, 0, first, 42, 2, 0);
        }
    }

    private static void threeRings() {
        of("if the bell has rung three times for this LOT: the first by numbers has it");
        FishSteps x = oneLot("s60 d3 b1");
        come(x, 0, 999, 20, 0);
        come(x, 0, 999, 51, 0);
        come(x, 0, 999, 51, 0);
        // 60 57 54 51 four times
        lotIs(x, 0, 1, 51, 15, 3);
    }

    private static void twoRings() {
        of("by BELL 1: the bell rings, till one is alone");
        FishSteps x = oneLot("s60 d4 b1");
        come(x, 0, 999, 49, 0);
        come(x, 0, 999, 50, 0);
        // 48 (breath 3): both; 57 53 49 (6): both; 58 54 50 (9): the second alone
        lotIs(x, 0, 1, 50, 9, 2);
        x.worth(0, 0, 48);
        // 48 (3): both; 57 53 49 (6): the second alone
        lotIs(x, 0, 1, 49, 6, 1);
    }

    private static void nineMore() {
        of("at the next BREATH the PRICE is 9 more than it is (START at most)");
        // 49: 60 .. 48 (6), 57 .. 49 (11), 58 .. 48 (17), 57 .. 49 (22)
        // 50: 60 .. 50 (5), 59 .. 49 (11), 58 .. 50 (16), 59 .. 49 (22)
        // 51: 60 .. 50 (5), 59 .. 51 (10), 60 .. 50 (16), 59 .. 51 (21)
        // 52 and above: 9 more would be above START
        int[] limits = {49, 50, 51, 52, 59, 60}, prices = {49, 49, 51, 52, 58, 60}, breaths = {22, 22, 21, 19, 7, 3};
        for (int i = 0; i < limits.length; i++) {
            FishSteps x = oneLot("s60 d2 b1");
            come(x, 0, 999, limits[i], 0);
            come(x, 0, 999, limits[i], 0);
            lotIs(x, 0, 0, prices[i], breaths[i], 3);
        }
    }

    private static void ringsOfEachLot() {
        of("the bell has rung three times for this LOT: for the next one it rings anew");
        FishSteps x = house("s60 d3 b1", "00");
        come(x, 2, 999, 51, 0);
        come(x, 2, 999, 51, 0);
        lotIs(x, 0, 0, 51, 15, 3);
        lotIs(x, 1, 0, 51, 15, 3);
    }

    private static void backBehindABell() {
        of("PRICE below FLOOR behind a bell: it goes back");
        FishSteps x = oneLot("s60 d5 f45 b1");
        come(x, 0, 999, 46, 0);
        come(x, 0, 999, 46, 0);
        // 60 55 50 45 (3): both; 54 49 (5), and 44 is below FLOOR
        lotIs(x, 0, -4, -4, 5, 1);
        x.rule(2, 44);
        // 54 49 44 (6): both; 53 48 (8), and 43 is below FLOOR
        lotIs(x, 0, -4, -4, 8, 2);
    }

    private static void theDeafBehindABell() {
        of("a DEAF one behind a bell: the PRICE of the BREATH ahead is the one at which it rang");
        FishSteps x = oneLot("s60 d4 b1");
        come(x, 0, 999, 48, 0);
        come(x, 1, 999, 52, 0);
        lotIs(x, 0, 1, 57, 4, 1);
        due("gain(1)", x.gain(1), -5);
        FishSteps poor = oneLot("s60 d4 b1");
        come(poor, 0, 999, 48, 0);
        come(poor, 1, 56, 52, 0);
        // at 57 he can't pay; 53 (5) 49 (6) he hears too much; 45 (7) both: 54 (8) the deaf one heard 45
        lotIs(poor, 0, 1, 54, 8, 2);
    }

    // ---- promises 12 to 15

    private static void boundsOfLot() {
        of("12: BAD");
        due("lot(0, 0) without lots", new FishSteps().lot(0, 0), -1);
        for (int n = 1; n <= 6; n++) {
            FishSteps x = house("s60", "012301".substring(0, n));
            for (int no : new int[] {-1, n, 6, MIN, MAX}) {
                for (int what = 0; what < 5; what++) due("lot(" + no + ", " + what + ") of " + n, x.lot(no, what), -1);
            }
            for (int no : new int[] {-1, 5, MIN, MAX}) due("lot(0, " + no + ")", x.lot(0, no), -1);
            lotIs(x, n - 1, -4, -4, 59, 0);
        }
    }

    private static void boundsOfGainAndTill() {
        of("13: BAD less 100000; 14: BAD");
        FishSteps x = house("s60", "0");
        for (int b = 0; b < 5; b++) {
            due("gain(" + b + ")", x.gain(b), -100001);
            x.buyer(0, 9);
            due("gain(" + b + ")", x.gain(b), 0);
        }
        for (int no : new int[] {-1, 5, MIN, MAX}) due("gain(" + no + ")", x.gain(no), -100001);
        for (int no : new int[] {-1, 3, MIN, MAX}) due("till(" + no + ")", x.till(no), -1);
    }

    private static void gainOfTwo() {
        of("GAIN: WORTH of the LOTS that he had, less their PRICES");
        FishSteps x = house("s60", "01");
        come(x, 2, 999, 50, 10);
        x.worth(0, 1, 30);
        due("gain(0)", x.gain(0), 50 + 30 - 40 - 20);
        due("till(0)", x.till(0), 40 + 20);
        FishSteps start = house("s9 f9", "33");
        come(start, 2, 999, 99, 0);
        due("gain(0)", start.gain(0), 180);
    }

    private static void purseByThen() {
        of("LOTS one behind the other, from all ROOM on, each PURSE as it is by then");
        FishSteps x = house("s60", "000");
        come(x, 2, 95, 50, 0);
        come(x, 0, 30, 44, 0);
        lotIs(x, 0, 0, 50, 10, 0);
        lotIs(x, 1, 0, 45, 15, 0);
        lotIs(x, 2, 1, 30, 30, 0);
        due("morning()", x.morning(), 125);
        due("told(0, 6)", x.told(0, 6), 0);
        due("told(1, 6)", x.told(1, 6), 0);
        x.earn(0, 20);
        x.earn(1, 40);
        // he has room again: 1 for 40, 0 for 20, and nobody
        due("morning()", x.morning(), 60);
        due("morning()", x.morning(), 0);
    }

    private static void morningWithoutLots() {
        of("15: NOT: there is no LOT");
        FishSteps x = withoutLots();
        due("morning()", x.morning(), -2);
        due("count(2)", x.count(2), 0);
        due("told(0, 6)", x.told(0, 6), 200);
        lots(x, "0");
        due("morning()", x.morning(), 45);
        due("count(2)", x.count(2), 1);
    }

    private static void morningsCounted() {
        of("15: THE MORNING is held, FALLING: TILL");
        FishSteps x = house("s60 f40", "0");
        for (int i = 1; i <= 100; i++) {
            due("morning() without buyers", x.morning(), 0);
            due("count(2)", x.count(2), i);
        }
        FishSteps y = house("s60 f40", "00");
        come(y, 0, 100, 50, 3);
        come(y, 3, 100, 50, 3);
        due("till(0)", y.till(0), 49 + 47);
        due("morning()", y.morning(), 49 + 47);
        due("count(0)", y.count(0), 2);
    }

    private static void morningsFull() {
        of("15: FULL: 9999 were held");
        // no object comes there within its 512 calls; the program keeps to it all the same
        FishSteps x = house("s60 f40", "0");
        come(x, 0, 999, 50, 0);
        int sum = 0;
        for (int i = 0; i < 9998; i++) sum += x.morning();
        due("all till then", sum, 19 * 50 + 49);
        due("morning(), the 9999th", x.morning(), 0);
        due("morning(), one more", x.morning(), -3);
        due("count(2)", x.count(2), 9999);
        x.earn(0, 50);
        due("morning(), one more", x.morning(), -3);
        due("told(0, 6)", x.told(0, 6), 50);
    }

    // ---- HEARD, SPAN

    private static void heardOfWhoCoughed() {
        of("who COUGHED there and is not DEAF: his WORTH is no less than PRICE and MARGIN (BOLD: half of it)");
        FishSteps x = oneLot("s60 d9 b0");
        int[] margins = {0, 7, 7, 7, 7}, least = {42, 0, 49, 45, 49};
        for (int b = 0; b < 5; b++) come(x, b, 900, 50, margins[b]);
        x.worth(1, 0, 58);
        // 60 51 42: at 42 all cough, the deaf one too (58 - 7 is 51, the price ahead)
        due("morning()", x.morning(), 42);
        for (int b = 0; b < 5; b++) spanIs(x, b, 0, least[b], 99);
        due("hush()", x.hush(), 4);
    }

    private static void heardOfTheSilent() {
        of("who has ROOM, CAN pay it, is not DEAF and did not COUGH: it is less");
        FishSteps x = oneLot("s60");
        come(x, 0, 900, 55, 5);
        int[] sorts = {0, 1, 3, 4};
        for (int sort : sorts) come(x, sort, 50, 40, 7);
        due("morning()", x.morning(), 50);
        spanIs(x, 0, 0, 55, 99);
        spanIs(x, 1, 0, 0, 56);
        spanIs(x, 2, 0, 0, 99);
        spanIs(x, 3, 0, 0, 52);
        spanIs(x, 4, 0, 0, 56);
    }

    private static void notHeardWhoCantPay() {
        of("HEARD: who has ROOM, CAN pay it (to the last)");
        FishSteps x = oneLot("s60 c10");
        come(x, 0, 900, 50, 0);
        come(x, 0, 49, 40, 0);
        come(x, 0, 50, 40, 0);
        come(x, 4, 39, 40, 0);
        come(x, 4, 40, 40, 0);
        x.morning();
        spanIs(x, 1, 0, 0, 99);
        spanIs(x, 2, 0, 0, 49);
        spanIs(x, 3, 0, 0, 99);
        spanIs(x, 4, 0, 0, 49);
    }

    private static void notHeardWithoutRoom() {
        of("HEARD: who has ROOM");
        FishSteps x = house("s60", "0123");
        come(x, 0, 900, 50, 0);
        come(x, 2, 900, 40, 0);
        x.morning();
        // 0 for 50, 1 for 40 twice, then nobody has room
        spanIs(x, 0, 0, 50, 99);
        spanIs(x, 0, 1, 0, 99);
        spanIs(x, 1, 0, 0, 49);
        spanIs(x, 1, 1, 40, 99);
        spanIs(x, 1, 2, 40, 99);
        spanIs(x, 1, 3, 0, 99);
        due("hush()", x.hush(), 4);
    }

    private static void heardAtTheLastBreathAlone() {
        of("HEARD is, of each LOT of a MORNING that was held, at its last BREATH");
        FishSteps x = oneLot("s60 d4 b1");
        come(x, 0, 999, 48, 0);
        come(x, 0, 999, 50, 0);
        // 48 (both, the bell), 57 53 49: the second alone; at 48 the first coughed, which is not heard
        due("morning()", x.morning(), 49);
        spanIs(x, 0, 0, 0, 48);
        spanIs(x, 1, 0, 49, 99);
        FishSteps back = oneLot("s60 d7 f20");
        come(back, 0, 999, 20, 3);
        // 60 53 46 39 32 25, and 18 is below FLOOR
        due("morning()", back.morning(), 0);
        spanIs(back, 0, 0, 0, 27);
    }

    private static void notHeardWithoutABreath() {
        of("HEARD at its last BREATH: not of a LOT without one");
        FishSteps x = oneLot("s60 f61");
        come(x, 0, 999, 20, 3);
        due("morning()", x.morning(), 0);
        spanIs(x, 0, 0, 0, 99);
        due("hush()", x.hush(), 0);
        x.rule(2, 60);
        due("morning()", x.morning(), 0);
        spanIs(x, 0, 0, 0, 62);
    }

    private static void heardOfMorningsAlone() {
        of("HEARD is of a MORNING that was held: asking alone is not heard");
        FishSteps x = oneLot("s60");
        come(x, 0, 900, 50, 0);
        come(x, 0, 900, 40, 0);
        x.lot(0, 1);
        x.gain(0);
        x.till(0);
        x.best(0);
        x.rests(-1);
        x.order(-1);
        x.ring(3);
        x.sheet(0, 0, 2);
        x.film(0, 0, 0);
        x.which(0, 0, 0, 0);
        due("hush()", x.hush(), 0);
    }

    private static void ninetyNineAtMost() {
        of("PRICE and MARGIN (BOLD: half of it; 99 at most)");
        FishSteps x = oneLot("s80");
        come(x, 0, 900, 99, 0);
        int[] margins = {18, 19, 20, 40}, most = {97, 98, 98, 98};
        for (int m : margins) come(x, 0, 900, 90, m);
        due("morning()", x.morning(), 80);
        for (int b = 1; b < 5; b++) spanIs(x, b, 0, 0, most[b - 1]);
        FishSteps bold = oneLot("s80");
        come(bold, 0, 900, 99, 0);
        int[] twice = {37, 38, 39, 40};
        int[] mostOfBold = {97, 98, 98, 98};
        for (int m : twice) come(bold, 3, 900, 90, m);
        due("morning()", bold.morning(), 80);
        for (int b = 1; b < 5; b++) spanIs(bold, b, 0, 0, mostOfBold[b - 1]);
        FishSteps all = oneLot("s99");
        come(all, 0, 900, 99, 0);
        due("morning()", all.morning(), 99);
        spanIs(all, 0, 0, 99, 99);
    }

    private static void narrowedByAll() {
        of("SPAN of a BUYER's WORTH of a KIND: 0 to 99, narrowed by all HEARD so far");
        FishSteps x = oneLot("s60 f10");
        come(x, 0, 999, 50, 0);
        come(x, 0, 999, 30, 0);
        due("morning()", x.morning(), 50);
        spanIs(x, 0, 0, 50, 99);
        spanIs(x, 1, 0, 0, 49);
        x.worth(0, 0, 55);
        due("morning()", x.morning(), 55);
        spanIs(x, 0, 0, 55, 99);
        spanIs(x, 1, 0, 0, 49);
        x.worth(0, 0, 40);
        due("morning()", x.morning(), 40);
        spanIs(x, 0, 0, 55, 99);
        spanIs(x, 1, 0, 0, 39);
        x.worth(1, 0, 45);
        // what is heard now may gainsay what was heard of other worths
        due("morning()", x.morning(), 45);
        spanIs(x, 0, 0, 55, 44);
        spanIs(x, 1, 0, 45, 39);
        for (int b = 0; b < 2; b++) {
            for (int k = 1; k < 4; k++) spanIs(x, b, k, 0, 99);
        }
        due("hush()", x.hush(), 2);
    }

    private static void boundsOfSpan() {
        of("16: the least (0), the greatest (1). BAD");
        FishSteps x = new FishSteps();
        due("span(0, 0, 0) without buyers", x.span(0, 0, 0), -1);
        come(x, 0, 9, 9, 9);
        come(x, 1, 9, 9, 9);
        for (int b = 0; b < 2; b++) {
            for (int k = 0; k < 4; k++) spanIs(x, b, k, 0, 99);
        }
        for (int no : new int[] {-1, 2, 5, MIN, MAX}) due("span(" + no + ", 0, 0)", x.span(no, 0, 0), -1);
        for (int no : new int[] {-1, 4, MIN, MAX}) due("span(0, " + no + ", 0)", x.span(0, no, 0), -1);
        for (int no : new int[] {-1, 2, MIN, MAX}) due("span(0, 0, " + no + ")", x.span(0, 0, no), -1);
    }

    private static void hushed() {
        of("17: All SPANS are 0 to 99 again: how many were not");
        FishSteps x = house("s60", "0123");
        due("hush() without buyers", x.hush(), 0);
        int[] worths = {50, 40, 30, 20};
        for (int w : worths) come(x, 0, 900, w, 0);
        come(x, 1, 900, 9, 0);
        due("morning()", x.morning(), 140);
        // of kind 0 all four are heard, of kind 1 three, of 2 two, of 3 one
        due("hush()", x.hush(), 10);
        for (int b = 0; b < 5; b++) {
            for (int k = 0; k < 4; k++) spanIs(x, b, k, 0, 99);
        }
        due("hush()", x.hush(), 0);
        lots(x, "00");
        x.morning();
        // of kind 0 again: 0 coughed at 50, 1 was silent there and coughed at 40
        spanIs(x, 1, 0, 40, 49);
        due("hush(), both ends of one count once", x.hush(), 4);
    }

    public static void main(String[] args) {
        roomForOne();
        roomForTwo();
        limit();
        limitBelowNought();
        canPay();
        canPayNought();
        priceByBreaths();
        priceAtTheFloor();
        startBelowTheFloor();
        priceOfNought();
        whoseLimitIsNoLess();
        theDeaf();
        theDeafAtFirst();
        theDeafPaysThePriceAsItIs();
        theDeafAtTheFloor();
        oneAlone();
        firstByNumbers();
        threeRings();
        twoRings();
        nineMore();
        ringsOfEachLot();
        backBehindABell();
        theDeafBehindABell();
        boundsOfLot();
        boundsOfGainAndTill();
        gainOfTwo();
        purseByThen();
        morningWithoutLots();
        morningsCounted();
        morningsFull();
        heardOfWhoCoughed();
        heardOfTheSilent();
        notHeardWhoCantPay();
        notHeardWithoutRoom();
        heardAtTheLastBreathAlone();
        notHeardWithoutABreath();
        heardOfMorningsAlone();
        ninetyNineAtMost();
        narrowedByAll();
        boundsOfSpan();
        hushed();
        end();
    }
}
