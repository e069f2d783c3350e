/** Each promise of the document by itself: ordinary calls, its edges, and wrong ones; reckoned by hand. */
public final class FishStepsPromises extends Asks {
    private static void p1NewObject() {
        of("promise 1");
        FishSteps x = new FishSteps();
        for (int what = 0; what <= 4; what++) due("count(" + what + ")", x.count(what), 0);
        due("told(0, 0)", x.told(0, 0), -100001);
        due("type(32, 1)", x.type(32, 1), 1);
        due("drop(0)", x.drop(0), -11);
        due("restore()", x.restore(), -4);
    }

    private static void p2Rule() {
        of("promise 2");
        FishSteps x = new FishSteps();
        int[] first = {60, 1, 1, 0, 0}, least = {1, 1, 0, 0, 0}, most = {99, 9, 99, 1, 99};
        for (int r = 0; r < 5; r++) {
            due("rule(" + r + ", least - 1)", x.rule(r, least[r] - 1), -1);
            due("rule(" + r + ", most + 1)", x.rule(r, most[r] + 1), -1);
            due("rule(" + r + ", MIN)", x.rule(r, MIN), -1);
            due("rule(" + r + ", MAX)", x.rule(r, MAX), -1);
            due("rule(" + r + ", least)", x.rule(r, least[r]), first[r]);
            due("rule(" + r + ", most)", x.rule(r, most[r]), least[r]);
            due("rule(" + r + ", most)", x.rule(r, most[r]), most[r]);
        }
        due("rule(-1, 1)", x.rule(-1, 1), -1);
        due("rule(5, 1)", x.rule(5, 1), -1);
        due("rule(MIN, 1)", x.rule(MIN, 1), -1);
        due("rule(MAX, 1)", x.rule(MAX, 1), -1);
    }

    private static void p3Buyer() {
        of("promise 3");
        FishSteps x = new FishSteps();
        due("buyer(-1, 5)", x.buyer(-1, 5), -1);
        due("buyer(5, 5)", x.buyer(5, 5), -1);
        due("buyer(0, -1)", x.buyer(0, -1), -1);
        due("buyer(0, 1000)", x.buyer(0, 1000), -1);
        due("count(1)", x.count(1), 0);
        for (int b = 0; b < 5; b++) {
            due("buyer(" + b + ", ..)", x.buyer(b, b == 0 ? 0 : 999), b);
            due("told sort", x.told(b, 0), b);
            due("told purse", x.told(b, 6), b == 0 ? 0 : 999);
            due("told margin", x.told(b, 1), 0);
            for (int k = 0; k < 4; k++) due("told worth", x.told(b, 2 + k), 0);
            for (int k = 0; k < 4; k++) spanIs(x, b, k, 0, 99);
        }
        due("buyer(0, 1)", x.buyer(0, 1), -3);
        due("buyer(5, 1)", x.buyer(5, 1), -1);
        due("buyer(0, 1000)", x.buyer(0, 1000), -1);
        due("count(1)", x.count(1), 5);
    }

    private static void p4Worth() {
        of("promise 4");
        FishSteps x = new FishSteps();
        due("worth(0, 0, 1)", x.worth(0, 0, 1), -1);
        x.buyer(0, 9);
        x.buyer(1, 9);
        for (int b = 0; b < 2; b++) {
            for (int k = 0; k < 4; k++) due("worth", x.worth(b, k, 10 * b + k), 0);
        }
        for (int b = 0; b < 2; b++) {
            for (int k = 0; k < 4; k++) {
                due("worth(.., 99)", x.worth(b, k, 99), 10 * b + k);
                due("worth(.., 100)", x.worth(b, k, 100), -1);
                due("worth(.., -1)", x.worth(b, k, -1), -1);
                due("worth(.., 0)", x.worth(b, k, 0), 99);
                due("told", x.told(b, 2 + k), 0);
            }
        }
        due("worth(0, -1, 1)", x.worth(0, -1, 1), -1);
        due("worth(0, 4, 1)", x.worth(0, 4, 1), -1);
        due("worth(0, MAX, 1)", x.worth(0, MAX, 1), -1);
        due("worth(-1, 0, 1)", x.worth(-1, 0, 1), -1);
        due("worth(2, 0, 1)", x.worth(2, 0, 1), -1);
        due("worth(MIN, 0, 1)", x.worth(MIN, 0, 1), -1);
    }

    private static void p5Margin() {
        of("promise 5");
        FishSteps x = new FishSteps();
        due("margin(0, 1)", x.margin(0, 1), -1);
        x.buyer(0, 9);
        x.buyer(3, 9);
        due("margin(0, 40)", x.margin(0, 40), 0);
        due("margin(1, 7)", x.margin(1, 7), 0);
        due("margin(0, 41)", x.margin(0, 41), -1);
        due("margin(0, -1)", x.margin(0, -1), -1);
        due("margin(0, 0)", x.margin(0, 0), 40);
        due("margin(1, 8)", x.margin(1, 8), 7);
        due("margin(2, 8)", x.margin(2, 8), -1);
        due("margin(-1, 8)", x.margin(-1, 8), -1);
        due("margin(MAX, 8)", x.margin(MAX, 8), -1);
    }

    private static void p6Told() {
        of("promise 6");
        FishSteps x = new FishSteps();
        x.buyer(2, 321);
        x.margin(0, 12);
        for (int k = 0; k < 4; k++) x.worth(0, k, 50 + k);
        int[] want = {2, 12, 50, 51, 52, 53, 321};
        for (int what = 0; what < 7; what++) due("told(0, " + what + ")", x.told(0, what), want[what]);
        due("told(0, -1)", x.told(0, -1), -100001);
        due("told(0, 7)", x.told(0, 7), -100001);
        due("told(1, 0)", x.told(1, 0), -100001);
        due("told(-1, 0)", x.told(-1, 0), -100001);
        due("told(MAX, MAX)", x.told(MAX, MAX), -100001);
    }

    private static void p7Earn() {
        of("promise 7");
        FishSteps x = new FishSteps();
        due("earn(0, 1)", x.earn(0, 1), -100001);
        x.buyer(0, 999);
        due("earn(0, 0)", x.earn(0, 0), -100001);
        due("earn(0, -1)", x.earn(0, -1), -100001);
        due("earn(0, 1000)", x.earn(0, 1000), -100001);
        due("earn(0, MAX)", x.earn(0, MAX), -100001);
        due("earn(1, 5)", x.earn(1, 5), -100001);
        for (int i = 2; i <= 10; i++) due("earn(0, 999)", x.earn(0, 999), 999 * i);
        due("earn(0, 10)", x.earn(0, 10), -100003);
        due("told(0, 6)", x.told(0, 6), 9990);
        due("earn(0, 9)", x.earn(0, 9), 9999);
        due("earn(0, 1)", x.earn(0, 1), -100003);
        due("earn(0, 1000)", x.earn(0, 1000), -100001);

        FishSteps y = house("s50 f40 c60", "0");
        come(y, 4, 10, 50, 0);
        due("morning()", y.morning(), 50);
        due("earn(0, 1)", y.earn(0, 1), -39);
        due("earn(0, 39)", y.earn(0, 39), 0);
    }

    private static void p8Type() {
        of("promise 8");
        FishSteps x = new FishSteps();
        due("type(.., 0)", x.type(0x3031323334353637L, 0), -1);
        due("type(.., 9)", x.type(0x3031323334353637L, 9), -1);
        due("type(.., MIN)", x.type(0x3031323334353637L, MIN), -1);
        due("type(.., MAX)", x.type(0x3031323334353637L, MAX), -1);
        due("type(31, 1)", x.type(31, 1), -1);
        due("type(127, 1)", x.type(127, 1), -1);
        due("type(0, 1)", x.type(0, 1), -1);
        due("type(-1, 1)", x.type(-1, 1), -1);
        due("type(a low byte behind, 2)", x.type(0x301F, 2), -1);
        due("type(a low byte ahead, 2)", x.type(0x1F30, 2), -1);
        due("type(176, 1)", x.type(176, 1), -1);
        due("type(126, 1)", x.type(126, 1), 1);
        due("type(32, 1)", x.type(32, 1), 2);
        due("rules()", x.rules(), -20);
        due("type of the lowest bytes alone", x.type(0xFFFFFFFFFF733235L, 3), 3);
        due("rules()", x.rules(), 1);
        due("rule(0, 1)", x.rule(0, 1), 25);
        for (int i = 1; i <= 7; i++) due("type(.., 8)", x.type(0x2020202020202020L, 8), 8 * i);
        due("type(.., 5)", x.type(0x2020202020L, 5), -3);
        due("type(0, 5)", x.type(0L, 5), -1);
        due("type(.., 8)", x.type(0x2020202020202020L, 8), -3);
        due("type(.., 4)", x.type(0x20733435L, 4), 60);
        due("type(.., 1)", x.type(0x20L, 1), -3);
        due("rules()", x.rules(), 1);
        due("rule(0, 1)", x.rule(0, 1), 45);
        due("type of eight with a sign", x.type(0x8031323334353637L, 8), -1);
    }

    private static void p9Rules() {
        of("promise 9");
        FishSteps x = new FishSteps();
        due("rules()", x.rules(), -20);
        due("all, in another order", rules(x, "c7b1f3d2s50"), 5);
        lawIs(x, 50, 2, 3, 1, 7);
        due("tape is empty", x.rules(), -20);
        due("blanks", rules(x, "  s  0040   d 3 "), 2);
        lawIs(x, 40, 3, 3, 1, 7);
        due("b0f0", rules(x, "b0f0"), 2);
        due("of a great many digits", rules(x, "c00000000000000000000000000000000000000000000000000009"), 1);
        lawIs(x, 40, 3, 0, 0, 9);
        String[] faults = {"", " ", "   ", "s", "s ", "s0", "s00", "s100", "s 100", "d10", "d0", "f100", "b2", "c100", "s50s50",
            "s50 s", "s5 0", "x", "  x", "S5", "5", "s5x", "s5,d3", "s-5", "s5d", "s5d ", "s4294967297", "s99999999999999999999",
            "s5d3f2b1c9s", "s5d3f2b1c9 4", "s5d3f2b1c9z", "ss", "s 5d 3f 2b 7", "s5 d3 f2 d4"};
        int[] want = {-20, -21, -23, -21, -22, -21, -21, -21, -22, -21, -21, -21, -21, -21, -23,
            -24, -23, -20, -22, -20, -20, -22, -22, -21, -23, -24, -21, -21,
            -30, -31, -30, -21, -31, -29};
        for (int i = 0; i < faults.length; i++) {
            due("rules of \"" + faults[i] + "\"", rules(x, faults[i]), want[i]);
            due("tape is empty behind it", x.type(32, 1), 1);
            x.rules();
        }
        lawIs(x, 40, 3, 0, 0, 9);
        due("edges", rules(x, "s99d9f99b1c99"), 5);
        lawIs(x, 99, 9, 99, 1, 99);
        due("edges", rules(x, "s1d1f0b0c0"), 5);
        lawIs(x, 1, 1, 0, 0, 0);
    }

    private static void p10Lots() {
        of("promise 10");
        FishSteps x = new FishSteps();
        due("lots()", x.lots(), -20);
        due("one", lots(x, "3"), 1);
        due("six", lots(x, " 01 23 3 2  "), 6);
        int[] kinds = {0, 1, 2, 3, 3, 2};
        for (int k = 0; k < 6; k++) due("lot(" + k + ", 0)", x.lot(k, 0), kinds[k]);
        due("tape is empty", x.lots(), -20);
        String[] faults = {"", "  ", "4", "04", "0 1x", "0123012", "0123 01 3 ", "-1", "s"};
        int[] want = {-20, -22, -20, -21, -23, -26, -28, -20, -20};
        for (int i = 0; i < faults.length; i++) {
            due("lots of \"" + faults[i] + "\"", lots(x, faults[i]), want[i]);
            due("tape is empty behind it", x.type(32, 1), 1);
            x.lots();
        }
        due("count(0)", x.count(0), 6);
        for (int k = 0; k < 6; k++) due("lot(" + k + ", 0)", x.lot(k, 0), kinds[k]);
        due("fewer", lots(x, "21"), 2);
        due("lot(0, 0)", x.lot(0, 0), 2);
        due("lot(1, 0)", x.lot(1, 0), 1);
        due("lot(2, 0)", x.lot(2, 0), -1);
    }

    private static void p11Count() {
        of("promise 11");
        FishSteps x = house("s50f40c60", "0121");
        come(x, 4, 10, 50, 0);
        come(x, 0, 0, 50, 0);
        due("count(0)", x.count(0), 4);
        due("count(1)", x.count(1), 2);
        due("count(2)", x.count(2), 0);
        due("count(3)", x.count(3), 0);
        due("count(4)", x.count(4), 3);
        x.morning();
        x.morning();
        due("count(2)", x.count(2), 2);
        due("count(3)", x.count(3), 1);
        x.earn(0, 40);
        due("count(3) of a purse of 0", x.count(3), 0);
        lots(x, "3333");
        due("count(4)", x.count(4), 1);
        due("count(-1)", x.count(-1), -1);
        due("count(5)", x.count(5), -1);
        due("count(MIN)", x.count(MIN), -1);
    }

    private static void p12Lot() {
        of("promise 12");
        FishSteps x = house("s60 d4 f10", "0");
        come(x, 0, 100, 50, 5);
        lotIs(x, 0, 0, 44, 4, 0);
        x.margin(0, 6);
        lotIs(x, 0, 0, 44, 4, 0);
        x.margin(0, 7);
        lotIs(x, 0, 0, 40, 5, 0);
        x.rule(2, 44);
        lotIs(x, 0, -4, -4, 4, 0);
        x.rule(2, 60);
        lotIs(x, 0, -4, -4, 0, 0);
        x.rule(2, 61);
        lotIs(x, 0, -4, -4, -4, 0);
        due("lot(0, 0)", x.lot(0, 0), 0);
        due("lot(0, -1)", x.lot(0, -1), -1);
        due("lot(0, 5)", x.lot(0, 5), -1);
        due("lot(1, 0)", x.lot(1, 0), -1);
        due("lot(-1, 0)", x.lot(-1, 0), -1);
        due("lot(MAX, 0)", x.lot(MAX, 0), -1);

        of("promise 12, sorts");
        FishSteps bold = house("s60", "0");
        come(bold, 3, 100, 50, 5);
        lotIs(bold, 0, 0, 48, 12, 0);
        FishSteps deaf = house("s60 d3", "0");
        come(deaf, 1, 100, 60, 0);
        lotIs(deaf, 0, 0, 57, 1, 0);
        deaf.worth(0, 0, 99);
        lotIs(deaf, 0, 0, 57, 1, 0);
        deaf.worth(0, 0, 59);
        lotIs(deaf, 0, 0, 54, 2, 0);
        FishSteps two = house("s60", "0000");
        come(two, 2, 109, 55, 0);
        lotIs(two, 0, 0, 55, 5, 0);
        lotIs(two, 1, 0, 54, 6, 0);
        lotIs(two, 2, -4, -4, 59, 0);
        FishSteps one = house("s60", "01");
        come(one, 0, 500, 55, 0);
        lotIs(one, 0, 0, 55, 5, 0);
        lotIs(one, 1, -4, -4, 59, 0);
        FishSteps credit = house("s60 c5", "0");
        come(credit, 4, 20, 55, 0);
        come(credit, 0, 24, 55, 0);
        lotIs(credit, 0, 0, 25, 35, 0);
        FishSteps poor = house("s3 f0", "0");
        come(poor, 0, 0, 9, 0);
        lotIs(poor, 0, 0, 0, 3, 0);
        poor.margin(0, 10);
        lotIs(poor, 0, -4, -4, 3, 0);

        of("promise 12, bells");
        FishSteps bells = house("s60 d4 b1", "0");
        come(bells, 0, 100, 50, 0);
        come(bells, 0, 100, 49, 0);
        // 48 (breath 3), 57 53 49 (6): both; 58 54 50 (9): only the first
        lotIs(bells, 0, 0, 50, 9, 2);
        bells.worth(1, 0, 50);
        // 48 (3); 57 53 49 (6); 58 54 50 (9); 59 55 51 47 (13)
        lotIs(bells, 0, 0, 47, 13, 3);
        bells.rule(3, 0);
        lotIs(bells, 0, 0, 48, 3, 0);
        FishSteps high = house("s60 d5 b1 f1", "0");
        come(high, 0, 100, 99, 0);
        come(high, 0, 100, 99, 0);
        lotIs(high, 0, 0, 60, 3, 3);
        FishSteps gone = house("s60 d5 b1 f45", "0");
        come(gone, 0, 100, 46, 0);
        come(gone, 0, 100, 46, 0);
        // 60 55 50 45 (3); 54 49, then 44 is below the floor
        lotIs(gone, 0, -4, -4, 5, 1);
        FishSteps late = house("s60 d4 b1", "0");
        come(late, 0, 100, 48, 0);
        come(late, 1, 100, 52, 0);
        // 48 (3): both; at 57 the deaf one still hears 48
        lotIs(late, 0, 1, 57, 4, 1);
        due("gain(1)", late.gain(1), -5);
        late.rule(3, 0);
        lotIs(late, 0, 0, 48, 3, 0);
    }

    private static void p13Gain() {
        of("promise 13");
        FishSteps x = house("s60", "012");
        come(x, 2, 200, 50, 5);
        come(x, 0, 200, 40, 7);
        due("gain(0)", x.gain(0), 10);
        due("gain(1)", x.gain(1), 7);
        due("gain again", x.gain(1), 7);
        due("gain(2)", x.gain(2), -100001);
        due("gain(-1)", x.gain(-1), -100001);
        due("gain(MAX)", x.gain(MAX), -100001);
        due("told(0, 6)", x.told(0, 6), 200);
        due("count(2)", x.count(2), 0);
        due("gain without lots", withoutLots().gain(0), 0);
    }

    private static void p14Till() {
        of("promise 14");
        FishSteps x = house("s60 f20", "012");
        come(x, 0, 100, 50, 4);
        come(x, 0, 100, 40, 1);
        come(x, 3, 100, 30, 5);
        due("till(0)", x.till(0), 46 + 39 + 28);
        due("till(1)", x.till(1), 41 + 31 + 20);
        due("till(2)", x.till(2), 46 + 39 + 28);
        due("till(-1)", x.till(-1), -1);
        due("till(3)", x.till(3), -1);
        due("till(MAX)", x.till(MAX), -1);
        due("till(0) without lots", withoutLots().till(0), 0);
        due("till(1) without lots", withoutLots().till(1), 0);
        due("till(2) without lots", withoutLots().till(2), 0);

        FishSteps like = house("f20", "0");
        come(like, 0, 100, 50, 0);
        come(like, 0, 100, 50, 0);
        due("rising, no more than his own worth", like.till(1), 50);
        FishSteps poor = house("f20", "0");
        come(poor, 0, 35, 50, 0);
        come(poor, 0, 100, 45, 0);
        due("rising, no more than he can pay", poor.till(1), 35);
        due("sealed, only who can pay his limit", poor.till(2), 45);
        poor.rule(2, 36);
        due("rising, who can't pay the floor is not there", poor.till(1), 36);
        poor.rule(2, 46);
        due("rising, nobody", poor.till(1), 0);
        due("sealed, nobody", poor.till(2), 0);
        FishSteps credit = house("f20 c30", "00");
        come(credit, 4, 20, 50, 0);
        come(credit, 0, 100, 10, 0);
        due("sealed on credit, then nobody", credit.till(2), 50);
        due("rising alone for the floor", credit.till(1), 20);
        FishSteps two = house("f5", "000");
        come(two, 2, 60, 50, 10);
        come(two, 0, 60, 30, 20);
        // sealed: 0 for 40 (20 left), then he can't pay 40: 1 for 10, then nobody
        due("sealed, purse by then", two.till(2), 50);
        // rising: 0 for 31 (29 left), 0 for 29 of 31, then 1 alone for 5
        due("rising, purse by then", two.till(1), 65);
        FishSteps first = house("s90 f5", "01");
        come(first, 0, 60, 50, 0);
        come(first, 0, 60, 50, 0);
        first.worth(0, 1, 9);
        first.worth(1, 1, 40);
        due("sealed, the first of like limits", first.till(2), 90);
        due("rising, the first of like worths", first.till(1), 50 + 5);
        FishSteps deaf = house("s60 d3 f20", "0");
        come(deaf, 1, 100, 55, 0);
        come(deaf, 1, 100, 50, 0);
        due("rising with the deaf", deaf.till(1), 51);
        due("sealed with the deaf", deaf.till(2), 55);
        due("falling with the deaf", deaf.till(0), 51);
    }

    private static void p15Morning() {
        of("promise 15");
        FishSteps none = withoutLots();
        due("morning() without lots", none.morning(), -2);
        due("count(2)", none.count(2), 0);
        FishSteps x = house("s60", "01");
        due("morning() without buyers", x.morning(), 0);
        come(x, 0, 100, 50, 5);
        come(x, 2, 80, 44, 0);
        due("morning()", x.morning(), 45 + 44);
        due("told(0, 6)", x.told(0, 6), 55);
        due("told(1, 6)", x.told(1, 6), 36);
        due("count(2)", x.count(2), 2);
        due("count(0)", x.count(0), 2);
        due("from all room on: morning()", x.morning(), 45 + 36);
        due("told(0, 6)", x.told(0, 6), 10);
        due("told(1, 6)", x.told(1, 6), 0);
        due("morning()", x.morning(), 10);
        due("morning()", x.morning(), 0);
    }

    private static void p16Span() {
        of("promise 16");
        FishSteps x = house("s60", "0");
        come(x, 0, 100, 50, 5);
        come(x, 0, 100, 40, 7);
        come(x, 3, 100, 40, 7);
        come(x, 1, 100, 40, 7);
        come(x, 0, 44, 40, 7);
        x.morning();
        spanIs(x, 0, 0, 50, 99);
        spanIs(x, 1, 0, 0, 51);
        spanIs(x, 2, 0, 0, 47);
        spanIs(x, 3, 0, 0, 99);
        spanIs(x, 4, 0, 0, 99);
        spanIs(x, 1, 1, 0, 99);
        due("span(0, 0, 2)", x.span(0, 0, 2), -1);
        due("span(0, 0, -1)", x.span(0, 0, -1), -1);
        due("span(0, 4, 0)", x.span(0, 4, 0), -1);
        due("span(0, -1, 0)", x.span(0, -1, 0), -1);
        due("span(5, 0, 0)", x.span(5, 0, 0), -1);
        due("span(-1, 0, 0)", x.span(-1, 0, 0), -1);
        due("span(MAX, MAX, MAX)", x.span(MAX, MAX, MAX), -1);
        x.lot(0, 1);
        x.best(1);
        x.worth(0, 0, 45);
        x.till(0);
        spanIs(x, 0, 0, 50, 99);
        x.morning();
        // price 40: worth 45 and margin 5 cough there; 50 stays the least; 55 in purse
        spanIs(x, 0, 0, 50, 99);
        spanIs(x, 1, 0, 0, 46);
        spanIs(x, 4, 0, 0, 46);

        of("promise 16, who goes back, has no room");
        FishSteps back = house("s60 d7 f30", "00");
        come(back, 0, 100, 20, 3);
        come(back, 2, 100, 40, 2);
        back.morning();
        // 60 53 46 39 32: lot 0 to buyer 1 at 32, lot 1 at 32 too
        spanIs(back, 0, 0, 0, 34);
        spanIs(back, 1, 0, 34, 99);
        back.rule(2, 50);
        back.morning();
        // nobody: the last breath is at 53; one has 100, the other 36
        spanIs(back, 0, 0, 0, 34);
        spanIs(back, 1, 0, 34, 99);
        back.hush();
        back.earn(1, 100);
        back.morning();
        spanIs(back, 0, 0, 0, 55);
        spanIs(back, 1, 0, 0, 54);
        back.rule(2, 61);
        back.hush();
        back.morning();
        spanIs(back, 0, 0, 0, 99);
        FishSteps room = house("s60", "01");
        come(room, 0, 200, 50, 0);
        come(room, 0, 200, 40, 0);
        room.morning();
        spanIs(room, 0, 0, 50, 99);
        spanIs(room, 0, 1, 0, 99);
        spanIs(room, 1, 0, 0, 49);
        spanIs(room, 1, 1, 40, 99);

        of("promise 16, price and margin above 99");
        FishSteps high = house("s90", "0");
        come(high, 0, 100, 95, 0);
        come(high, 0, 100, 60, 40);
        high.morning();
        spanIs(high, 0, 0, 90, 99);
        spanIs(high, 1, 0, 0, 98);
    }

    private static void p17Hush() {
        of("promise 17");
        FishSteps x = house("s60", "01");
        come(x, 0, 200, 50, 0);
        come(x, 0, 200, 40, 0);
        come(x, 1, 200, 30, 0);
        due("hush()", x.hush(), 0);
        x.morning();
        due("hush()", x.hush(), 3);
        spanIs(x, 0, 0, 0, 99);
        spanIs(x, 1, 0, 0, 99);
        spanIs(x, 1, 1, 0, 99);
        due("hush()", x.hush(), 0);
    }

    private static void p18Best() {
        of("promise 18");
        FishSteps x = house("s60 f1", "0");
        come(x, 0, 100, 50, 5);
        come(x, 0, 100, 40, 0);
        due("best(0)", x.best(0), 10);
        due("best(1)", x.best(1), 0);
        due("margin stays", x.told(0, 1), 5);
        due("best(2)", x.best(2), -1);
        due("best(-1)", x.best(-1), -1);
        due("best(MAX)", x.best(MAX), -1);
        x.worth(1, 0, 0);
        due("best(0), alone", x.best(0), 40);
        FishSteps bold = house("s60 f1", "0");
        come(bold, 3, 100, 50, 0);
        come(bold, 0, 100, 40, 0);
        due("best of the bold", bold.best(0), 20);
        bold.worth(0, 0, 40);
        due("best of nothing", bold.best(0), 0);
        due("best without lots", withoutLots().best(1), 0);
    }

    private static void p19Rests() {
        of("promise 19");
        FishSteps empty = house("s60", "0");
        due("rests(-1)", empty.rests(-1), -2);
        due("rests(4)", empty.rests(4), -2);
        due("rests(-2)", empty.rests(-2), -1);
        due("rests(5)", empty.rests(5), -1);
        FishSteps one = house("s60 f1", "0");
        come(one, 0, 100, 50, 5);
        due("rests(-1)", one.rests(-1), 1);
        due("rests(0)", one.rests(0), 24);
        due("rests(1)", one.rests(1), -4);
        due("rests(4)", one.rests(4), -4);
        due("rests(5)", one.rests(5), -1);
        due("rests(MIN)", one.rests(MIN), -1);
        due("margin stays", one.told(0, 1), 5);
        FishSteps idle = withoutLots();
        due("rests(-1) without lots", idle.rests(-1), 16);
        due("rests(1) without lots", idle.rests(1), 0);
        FishSteps like = house("s60 f1", "0");
        come(like, 0, 100, 50, 0);
        come(like, 0, 100, 50, 0);
        // the less margin has it (of like ones the first) and gains it: (0, 0), (8, 0), (8, 8) rest
        due("rests(-1) of two alike", like.rests(-1), 3);
        due("rests(0) of two alike", like.rests(0), 0);
        due("rests(1) of two alike", like.rests(1), 0);
        FishSteps two = house("s60 f1", "0");
        come(two, 0, 100, 50, 0);
        come(two, 0, 100, 30, 0);
        // the first has it by 16 of any margin of the second, by 24 (for 26) if the second's is 8 or more
        due("rests(-1)", two.rests(-1), 4);
        due("rests(0)", two.rests(0), 16);
        due("rests(1)", two.rests(1), 0);
        FishSteps none = restless();
        due("rests(-1) of no row", none.rests(-1), 0);
        due("rests(0) of no row", none.rests(0), -4);
        due("rests(1) of no row", none.rests(1), -4);
        due("rests(2) of no row", none.rests(2), -4);
    }

    /** Two to whom no row of margins is a rest: each best answer of one has a better answer of the other. */
    private static FishSteps restless() {
        FishSteps x = house("s86 f1", "01");
        come(x, 0, 60, 25, 0);
        come(x, 2, 160, 45, 0);
        x.worth(0, 1, 45);
        x.worth(1, 1, 50);
        return x;
    }

    private static void p20Order() {
        of("promise 20");
        FishSteps none = withoutLots();
        due("order(-1)", none.order(-1), -2);
        due("order(5)", none.order(5), -2);
        due("order(6)", none.order(6), -1);
        due("order(-2)", none.order(-2), -1);
        FishSteps x = house("s60 f1", "01");
        come(x, 0, 100, 50, 0);
        x.worth(0, 1, 58);
        due("till(0)", x.till(0), 50);
        due("order(-1)", x.order(-1), 58);
        due("order(0)", x.order(0), 1);
        due("order(1)", x.order(1), 0);
        due("order(2)", x.order(2), -4);
        due("order(6)", x.order(6), -1);
        due("order(MAX)", x.order(MAX), -1);
        due("lots stay", x.lot(0, 0), 0);
        lots(x, "010101");
        due("order(-1)", x.order(-1), 58);
        int[] row = {1, 0, 2, 3, 4, 5};
        for (int i = 0; i < 6; i++) due("order(" + i + ")", x.order(i), row[i]);
        come(x, 0, 100, 40, 0);
        x.worth(1, 0, 0);
        // lot 1 to the first for 58, then nobody wants 0 and 2, then lot 3 to the second for 40
        due("order(-1)", x.order(-1), 98);
        for (int i = 0; i < 6; i++) due("order(" + i + ")", x.order(i), row[i]);
        FishSteps empty = house("s60", "32");
        due("order(-1) without buyers", empty.order(-1), 0);
        due("order(0) without buyers", empty.order(0), 0);
        due("order(1) without buyers", empty.order(1), 1);
    }

    private static void p21Ring() {
        of("promise 21");
        FishSteps x = house("s60 f1", "01");
        come(x, 0, 100, 50, 0);
        come(x, 0, 100, 45, 0);
        come(x, 0, 100, 20, 0);
        due("ring(3)", x.ring(3), 0);
        x.margin(0, 30);
        // without: 1 has the first for 45, 0 the second for 20 (2 coughs too, but 0 is first): gains 0 and 30
        due("ring(3)", x.ring(3), 0);
        due("gain(0)", x.gain(0), 30);
        x.worth(2, 1, 30);
        // without: 1 has the first (45), 2 the second (30), 0 none; by the ring 0 has the first for 20, 1 the second for 45
        due("gain(0)", x.gain(0), 0);
        due("ring(3)", x.ring(3), 30);
        due("ring(7)", x.ring(7), 30 + 0);
        due("told(0, 1)", x.told(0, 1), 30);
        x.worth(1, 0, 50);
        due("ring(3), the first of like worths", x.ring(3), 30);
        int[] bad = {0, 1, 2, 4, 8, 9, 11, 16, 31, 32, -1, -4, MIN, MAX};
        for (int set : bad) due("ring(" + set + ")", x.ring(set), -100001);
        FishSteps worse = house("s60 f1", "0");
        come(worse, 0, 10, 50, 0);
        come(worse, 0, 100, 48, 8);
        due("gain(1)", worse.gain(1), 8);
        due("ring(3), the voice can't pay till 10", worse.ring(3), 40 - 8);
        worse.worth(0, 0, 49);
        worse.rule(2, 11);
        due("ring(3), below 0", worse.ring(3), -8);
        due("ring without lots", withoutLots().ring(3), 0);
    }

    private static void p22p23Image() {
        of("promise 22, 23");
        FishSteps x = house("s60 d2 f1 b0 c3", "01");
        due("restore()", x.restore(), -4);
        come(x, 0, 100, 50, 5);
        x.morning();
        x.sheet(0, 1, 4);
        type(x, "s");
        due("image()", x.image(), 1);
        rules(x, "1");
        x.rule(1, 3);
        rules(x, "d9f9b1c9");
        lots(x, "333");
        come(x, 4, 7, 7, 7);
        x.worth(0, 2, 9);
        x.margin(0, 9);
        x.earn(0, 9);
        x.morning();
        x.hush();
        x.sheet(0, 2, 5);
        x.sheet(1, 2, 3);
        type(x, "2");
        due("restore()", x.restore(), 1);
        lawIs(x, 60, 2, 1, 0, 3);
        due("count(0)", x.count(0), 2);
        due("lot(1, 0)", x.lot(1, 0), 1);
        due("count(1)", x.count(1), 1);
        due("count(2)", x.count(2), 1);
        int[] want = {0, 5, 50, 50, 50, 50, 56};
        for (int what = 0; what < 7; what++) due("told(0, " + what + ")", x.told(0, what), want[what]);
        spanIs(x, 0, 0, 49, 99);
        due("the tape stays", x.type(49, 1), 2);
        due("and is read", x.lots(), 2);
        due("lot(0, 0)", x.lot(0, 0), 2);
        due("drop(0)", x.drop(0), 5);
        due("drop(1)", x.drop(1), 3);
        due("buyer() behind restore", x.buyer(1, 5), 1);
        due("its worth is new", x.told(1, 2), 0);
        due("its margin is new", x.told(1, 1), 0);
        due("restore() again", x.restore(), 1);
        due("count(1)", x.count(1), 1);
        due("lot(0, 0)", x.lot(0, 0), 0);
        x.rule(0, 9);
        due("image() anew", x.image(), 1);
        x.rule(0, 8);
        x.restore();
        due("rule(0, 1)", x.rule(0, 1), 9);
    }

    private static FishSteps ringed() {
        FishSteps x = house("s60 f1", "01");
        come(x, 0, 100, 50, 30);
        come(x, 0, 100, 45, 0);
        come(x, 0, 100, 20, 0);
        x.worth(2, 1, 30);
        return x;
    }

    private static void p24Which() {
        of("promise 24");
        FishSteps x = ringed();
        due("which of no sheet", x.which(0, 1, 0, 0), -11);
        x.sheet(0, 1, 6);
        due("nothing so", x.which(0, 1, 0, 0), 0);
        due("nothing so", x.which(0, 1, 0, 1), -4);
        x.film(0, 1, 1);
        // none: 1 has the first for 45, 2 the second for 30; so too by the ring of 1 and 2
        due("which(.., 0)", x.which(0, 1, 1, 0), 2);
        due("which(.., 1)", x.which(0, 1, 1, 1), 0);
        // by the rings 3 and 7: 0 speaks for the first and has it for 20, 1 has the second for 45
        int[] items = {0, 20, 1, 45};
        for (int i = 0; i < 4; i++) x.item(0, 1, 2 + i, items[i]);
        due("by rings alone", x.which(0, 1, 2, 0), 2);
        due("the least", x.which(0, 1, 2, 1), 3);
        x.item(0, 1, 3, 21);
        due("another price", x.which(0, 1, 2, 0), 0);
        due("another price", x.which(0, 1, 2, 1), -4);
        due("which(4, ..)", x.which(4, 1, 0, 0), -1);
        due("which(-1, ..)", x.which(-1, 1, 0, 0), -1);
        due("which(.., 3, ..)", x.which(0, 3, 0, 0), -1);
        due("which(.., -1, ..)", x.which(0, -1, 0, 0), -1);
        due("which(.., 2)", x.which(0, 1, 0, 2), -1);
        due("which(.., -1)", x.which(0, 1, 0, -1), -1);
        due("BAD ahead of NULL", x.which(1, 1, 0, 2), -1);
        due("NULL ahead of INDEX", x.which(1, 1, 99, 0), -11);
        due("CAST ahead of INDEX", x.which(0, 0, 99, 0), -12);
        due("which(0, 1, 3, 0)", x.which(0, 1, 3, 0), -13);
        due("which(0, 1, -1, 0)", x.which(0, 1, -1, 0), -13);
        due("which(0, 1, MAX, 0)", x.which(0, 1, MAX, 0), -13);
        due("which(0, 1, MIN, 0)", x.which(0, 1, MIN, 0), -13);
        x.sheet(1, 2, 4);
        x.film(1, 2, 0);
        x.item(1, 2, 0, 1L << 32 | 1);
        due("a long is not cut", x.which(1, 2, 0, 0), 0);
        x.item(1, 2, 0, 1);
        due("but so it is", x.which(1, 2, 0, 1), 0);
        x.rule(2, 60);
        for (int i = 0; i < 4; i++) x.item(0, 1, i, i % 2 == 0 ? -1 : 1234 + i);
        due("of nobody whatever price", x.which(0, 1, 0, 0), 5);
        x.item(0, 1, 0, -2);
        due("not just below 0", x.which(0, 1, 0, 0), 0);
        FishSteps none = withoutLots();
        none.sheet(0, 0, 2);
        due("which without lots", none.which(0, 0, 2, 0), -2);
        due("INDEX ahead of NOT", none.which(0, 0, 3, 0), -13);
        due("INDEX ahead of NOT", none.which(0, 0, -1, 1), -13);
        FishSteps lone = house("s60", "0");
        lone.sheet(0, 0, 2);
        lone.film(0, 0, 0);
        due("without buyers none is there", lone.which(0, 0, 0, 0), 1);
        due("without buyers none is there", lone.which(0, 0, 0, 1), 0);
    }

    private static void p25Film() {
        of("promise 25");
        FishSteps x = house("s60 f46", "012");
        come(x, 0, 100, 50, 0);
        due("film of no sheet", x.film(0, 1, 0), -11);
        x.sheet(0, 0, 8);
        for (int i = 0; i < 8; i++) x.item(0, 0, i, 7);
        due("film(0, 0, 1)", x.film(0, 0, 1), 6);
        due("as told", x.which(0, 0, 1, 0), 1);
        x.sheet(1, 0, 8);
        x.copy(0, 0, 1, 0, 8);
        int[] want = {7, 0, 50, -1, 0, -1, 0, 7};
        for (int i = 0; i < 8; i++) itemIs(x, i, want[i]);
        due("film(0, 0, 2)", x.film(0, 0, 2), 6);
        due("film(0, 0, 3)", x.film(0, 0, 3), -13);
        due("film(0, 0, -1)", x.film(0, 0, -1), -13);
        due("film(0, 0, MAX)", x.film(0, 0, MAX), -13);
        due("film(0, 1, 9)", x.film(0, 1, 9), -12);
        due("film(3, 1, 9)", x.film(3, 1, 9), -11);
        due("film(4, 0, 0)", x.film(4, 0, 0), -1);
        due("film(0, 3, 0)", x.film(0, 3, 0), -1);
        due("the morning is not held", x.told(0, 6), 100);
        due("the morning is not held", x.count(2), 0);
        FishSteps none = withoutLots();
        none.sheet(0, 0, 2);
        due("film without lots", none.film(0, 0, 2), -2);
        due("INDEX ahead of NOT", none.film(0, 0, 3), -13);
    }

    /** That item i of sheet 1 (of bytes) of x is v: for a lot of which `which` finds it as WHO -1 or as the price v. */
    private static void itemIs(FishSteps x, int i, int v) {
        x.image();
        x.sheet(2, 0, 2);
        x.copy(1, i, 2, v < 0 ? 0 : 1, 1);
        rules(x, v < 0 ? "s1f9" : "s60f0");
        lots(x, "0");
        x.worth(0, 0, Math.max(0, v));
        due("item " + i + " is " + v, x.which(2, 0, 0, 0), 1);
        x.restore();
    }

    private static void p26p27Sheet() {
        of("promise 26, 27");
        FishSteps x = new FishSteps();
        for (int s = 0; s < 4; s++) {
            due("drop of nothing", x.drop(s), -11);
            due("sheet", x.sheet(s, s % 3, 4 * s), 4 * s);
            due("drop", x.drop(s), 4 * s);
            due("drop again", x.drop(s), -11);
        }
        due("sheet(0, 0, 16)", x.sheet(0, 0, 16), 16);
        due("sheet(0, 0, 17)", x.sheet(0, 0, 17), -1);
        due("sheet(0, 0, MAX)", x.sheet(0, 0, MAX), -1);
        due("sheet(0, 0, -1)", x.sheet(0, 0, -1), -14);
        due("sheet(0, 0, MIN)", x.sheet(0, 0, MIN), -14);
        due("sheet(0, 3, -1)", x.sheet(0, 3, -1), -1);
        due("sheet(0, -1, 1)", x.sheet(0, -1, 1), -1);
        due("sheet(4, 0, -1)", x.sheet(4, 0, -1), -1);
        due("sheet(-1, 0, 1)", x.sheet(-1, 0, 1), -1);
        due("refused changes nothing", x.drop(0), 16);
        due("drop(-1)", x.drop(-1), -1);
        due("drop(4)", x.drop(4), -1);
        due("drop(MIN)", x.drop(MIN), -1);
        due("drop(MAX)", x.drop(MAX), -1);
        x.sheet(0, 1, 2);
        x.item(0, 1, 0, 9);
        x.item(0, 1, 1, 9);
        x.sheet(0, 1, 2);
        rules(x, "s9f0");
        lots(x, "0");
        come(x, 0, 0, 9, 0);
        due("a new row is of items 0", x.which(0, 1, 0, 0), 1);
    }

    private static void p28Item() {
        of("promise 28");
        FishSteps x = house("s60 f0", "0");
        come(x, 0, 100, 50, 0);
        int[] lanes = {0, 1, 2};
        for (int lane : lanes) {
            due("item of nothing", x.item(lane, lane, 0, 0), -11);
            x.sheet(lane, lane, 2);
            due("item(.., 0)", x.item(lane, lane, 0, 0), 1);
            due("item(.., 50)", x.item(lane, lane, 1, 50), 1);
            due("which", x.which(lane, lane, 0, 0), 1);
            due("item of a byte more", x.item(lane, lane, 1, 50 + 256), 1);
            due("which", x.which(lane, lane, 0, 0), lane == 0 ? 1 : 0);
            due("item of an int more", x.item(lane, lane, 1, 50 - (1L << 32)), 1);
            due("which", x.which(lane, lane, 0, 0), lane <= 1 ? 1 : 0);
            due("item(.., 2)", x.item(lane, lane, 2, 1), -13);
            due("item(.., -1)", x.item(lane, lane, -1, 1), -13);
            due("item(.., MAX)", x.item(lane, lane, MAX, 1), -13);
            due("item(.., MIN)", x.item(lane, lane, MIN, 1), -13);
            due("CAST ahead of INDEX", x.item(lane, (lane + 1) % 3, 2, 1), -12);
            due("item of a lane 3", x.item(lane, 3, 0, 1), -1);
            due("item of a lane -1", x.item(lane, -1, 0, 1), -1);
        }
        due("BAD ahead of NULL", x.item(3, 3, 0, 1), -1);
        due("item(4, ..)", x.item(4, 0, 0, 1), -1);
        due("item(-1, ..)", x.item(-1, 0, 0, 1), -1);
        x.rule(2, 60);
        x.item(0, 0, 0, 255);
        due("a byte has a sign", x.which(0, 0, 0, 0), 1);
        x.item(1, 1, 0, 0xFFFFFFFFL);
        due("an int has a sign", x.which(1, 1, 0, 0), 1);
        x.item(2, 2, 0, 0xFFFFFFFFL);
        due("a long is whole", x.which(2, 2, 0, 0), 0);
        x.sheet(3, 0, 0);
        due("item of an empty row", x.item(3, 0, 0, 0), -13);
    }

    private static void p29Copy() {
        of("promise 29");
        FishSteps x = house("s60 f0", "0");
        come(x, 0, 100, 50, 0);
        due("copy of nothing", x.copy(0, 0, 1, 0, 0), -11);
        x.sheet(0, 0, 4);
        due("copy to nothing", x.copy(0, 0, 1, 0, 0), -11);
        due("copy from nothing", x.copy(1, 0, 0, 0, 0), -11);
        x.sheet(1, 0, 8);
        x.sheet(2, 1, 4);
        due("copy of unlike lanes", x.copy(0, 9, 2, 0, 1), -12);
        due("copy(4, ..)", x.copy(4, 0, 0, 0, 1), -1);
        due("copy(-1, ..)", x.copy(-1, 0, 0, 0, 1), -1);
        due("copy(.., 4, ..)", x.copy(3, 0, 4, 0, 1), -1);
        due("copy(.., -1, ..)", x.copy(0, 0, -1, 0, 1), -1);
        int[][] index = {{0, 0, -1}, {0, 0, 5}, {1, 0, 4}, {4, 0, 1}, {5, 0, 0}, {-1, 0, 0}, {0, -1, 0}, {0, 9, 0}, {0, 8, 1},
            {0, 5, 4}, {MAX, 0, 1}, {1, 0, MAX}, {MAX, 0, MAX}, {MIN, 0, 1}, {0, 0, MIN}, {0, MAX, 1}, {0, MIN, 1}, {MIN, 0, MIN}};
        for (int[] a : index) due("copy(0, " + a[0] + ", 1, " + a[1] + ", " + a[2] + ")", x.copy(0, a[0], 1, a[1], a[2]), -13);
        due("copy of none at the ends", x.copy(0, 4, 1, 8, 0), 0);
        due("copy of all", x.copy(0, 0, 1, 4, 4), 4);
        x.item(0, 0, 0, 0);
        x.item(0, 0, 1, 50);
        x.item(0, 0, 2, 1);
        x.item(0, 0, 3, 2);
        due("copy", x.copy(0, 0, 1, 3, 2), 2);
        due("came", x.which(1, 0, 3, 0), 1);
        due("not beside", x.which(1, 0, 2, 0), 0);
        due("not beside", x.which(1, 0, 4, 0), 0);
        due("up in the same one", x.copy(0, 0, 0, 1, 3), 3);
        due("came", x.which(0, 0, 1, 0), 1);
        due("down in the same one", x.copy(0, 1, 0, 0, 3), 3);
        due("came", x.which(0, 0, 0, 0), 1);
        for (int i = 0; i < 4; i++) x.item(0, 0, i, i == 1 ? 50 : 0);
        // 0 50 0 0 one up is 0 0 50 0: taken one by one it would be 0 0 0 0
        x.copy(0, 0, 0, 1, 3);
        due("as if taken ahead", x.which(0, 0, 1, 0), 1);
        due("as if taken ahead", x.which(0, 0, 2, 0), 0);
        x.sheet(3, 2, 3);
        x.item(3, 2, 1, 1L << 40);
        due("of longs", x.copy(3, 1, 3, 0, 1), 1);
        due("of longs", x.which(3, 2, 0, 0), 0);
    }

    public static void main(String[] args) {
        p1NewObject();
        p2Rule();
        p3Buyer();
        p4Worth();
        p5Margin();
        p6Told();
        p7Earn();
        p8Type();
        p9Rules();
        p10Lots();
        p11Count();
        p12Lot();
        p13Gain();
        p14Till();
        p15Morning();
        p16Span();
        p17Hush();
        p18Best();
        p19Rests();
        p20Order();
        p21Ring();
        p22p23Image();
        p24Which();
        p25Film();
        p26p27Sheet();
        p28Item();
        p29Copy();
        end();
    }
}
