/** Promises 24 to 29: told mornings on sheets, and the sheets themselves. */
public final class EdgesOfSheets extends Asks {

    /** A house whose film of its one lot is 0, 50. */
    private static FishSteps fifty() {
        FishSteps x = house("s60 f0", "0");
        come(x, 0, 900, 50, 0);
        return x;
    }

    /** That item i of a sheet of a house of `fifty` is v (-1 .. 99): as the WHO or the PRICE of its lot. */
    private static void itemIs(FishSteps x, int sheet, int lane, int i, int v) {
        int probe = sheet == 3 ? 2 : 3;
        x.sheet(probe, lane, 2);
        x.copy(sheet, i, probe, v < 0 ? 0 : 1, 1);
        x.rule(0, v < 0 ? 1 : 99);
        x.rule(2, v < 0 ? 9 : 0);
        x.worth(0, 0, Math.max(0, v));
        due("item " + i + " of sheet " + sheet + " is " + v + ": which", x.which(probe, lane, 0, 0), 1);
        x.drop(probe);
        x.rule(0, 60);
        x.rule(2, 0);
        x.worth(0, 0, 50);
    }

    // ---- 24

    private static void whichWho() {
        of("24: of each LOT WHO (-1: nobody)");
        FishSteps x = house("s60 f0", "0");
        for (int b = 0; b < 5; b++) come(x, 0, 900, b, 0);
        for (int lane = 0; lane < 3; lane++) {
            x.sheet(0, lane, 2);
            x.film(0, lane, 0);
            due("which as it is", x.which(0, lane, 0, 0), 27);
            for (int no : new int[] {-1, -2, 0, 3, 5, 127, -128}) {
                x.item(0, lane, 0, no);
                due("which with WHO " + no, x.which(0, lane, 0, 0), 0);
                due("which with WHO " + no, x.which(0, lane, 0, 1), -4);
            }
        }
        x.sheet(0, 2, 2);
        x.film(0, 2, 0);
        x.item(0, 2, 0, 4 + (1L << 32));
        due("a long WHO is not cut", x.which(0, 2, 0, 0), 0);
        x.item(0, 2, 0, 4);
        x.item(0, 2, 1, 4 - (1L << 32));
        due("a long PRICE is not cut", x.which(0, 2, 0, 0), 0);
        x.item(0, 2, 1, Long.MIN_VALUE);
        due("a least long PRICE", x.which(0, 2, 0, 0), 0);
    }

    private static void whichPrice() {
        of("24: and its PRICE (of nobody whatever)");
        FishSteps x = house("s60 f50", "01");
        come(x, 0, 900, 50, 0);
        come(x, 0, 900, 40, 0);
        x.sheet(0, 2, 4);
        x.film(0, 2, 0);
        due("which", x.which(0, 2, 0, 0), 2);
        long[] whatever = {-1, 59, 50, Long.MAX_VALUE, Long.MIN_VALUE, 1L << 32};
        for (long p : whatever) {
            x.item(0, 2, 3, p);
            due("which with a PRICE of nobody " + p, x.which(0, 2, 0, 0), 2);
            x.item(0, 2, 1, p);
            due("which with a PRICE of somebody " + p, x.which(0, 2, 0, 0), p == 50 ? 2 : 0);
            x.item(0, 2, 1, 50);
        }
        x.rule(2, 61);
        for (int i = 0; i < 4; i++) x.item(0, 2, i, -1);
        due("which of no breath", x.which(0, 2, 0, 0), 2);
    }

    private static void whichAllRings() {
        of("24: all RINGS (and none, 0), by which THE MORNING would be so: how many (0), the least (1)");
        int[] rings = {1, 1, 2, 5, 12, 27};
        for (int n = 0; n <= 5; n++) {
            FishSteps x = house("s60 f1", "012301");
            for (int b = 0; b < n; b++) come(x, 0, 0, 50, 0);
            x.sheet(0, 0, 12);
            x.film(0, 0, 0);
            due("which(.., 0) of " + n, x.which(0, 0, 0, 0), rings[n]);
            due("which(.., 1) of " + n, x.which(0, 0, 0, 1), 0);
        }
        FishSteps x = house("s60 f1", "0");
        int[] worths = {10, 50, 40, 30, 20}, margins = {0, 35, 26, 0, 0};
        for (int b = 0; b < 5; b++) come(x, 0, 900, worths[b], margins[b]);
        // 3 has it for 30; with 1 and 3 in a ring (or 2 and 3, not 1) 4 has it for 20, if he is not in it too
        x.sheet(0, 1, 2);
        x.item(0, 1, 0, 4);
        x.item(0, 1, 1, 20);
        due("which(.., 1), the least", x.which(0, 1, 0, 1), 8 + 2);
        // 4 is not in it, 3 is, and 1 or 2: of {0, 1, 2} those with 1 or 2
        due("which(.., 0)", x.which(0, 1, 0, 0), 6);
        x.item(0, 1, 0, 1);
        x.item(0, 1, 1, 15);
        // 1 has it for 15 where 3 and 4 leave it to 1 or to 2 (whose LIMIT is 14)
        due("which(.., 1), by rings of three", x.which(0, 1, 0, 1), 2 + 8 + 16);
        due("which(.., 0)", x.which(0, 1, 0, 0), 6);
        x.item(0, 1, 1, 16);
        due("which(.., 1), by none", x.which(0, 1, 0, 1), -4);
        due("which(.., 0), by none", x.which(0, 1, 0, 0), 0);
    }

    private static void whichFromItem() {
        of("24: two items (WHO, PRICE) for each LOT, of a SHEET, from item i on. INDEX");
        for (int n = 1; n <= 6; n++) {
            FishSteps x = house("s60 f0", "000000".substring(0, n));
            x.sheet(0, 0, 16);
            for (int i = 0; i < 16; i++) x.item(0, 0, i, -1);
            for (int i = 0; i <= 16 - 2 * n; i++) due("which from " + i + " of " + n, x.which(0, 0, i, 0), 1);
            for (int no : new int[] {-1, 17 - 2 * n, 16, 17, MIN, MAX, MAX - 2 * n + 1}) {
                due("which from " + no + " of " + n, x.which(0, 0, no, 0), -13);
                due("film from " + no + " of " + n, x.film(0, 0, no), -13);
            }
            x.sheet(1, 0, 2 * n - 1);
            due("which of one item too few", x.which(1, 0, 0, 0), -13);
            due("film of one item too few", x.film(1, 0, 0), -13);
            x.sheet(1, 0, 2 * n);
            due("film of just as many", x.film(1, 0, 0), 2 * n);
            due("which of just as many", x.which(1, 0, 0, 0), 1);
        }
        FishSteps x = fifty();
        x.sheet(0, 1, 5);
        x.item(0, 1, 3, 0);
        x.item(0, 1, 4, 50);
        for (int i = 0; i <= 3; i++) due("which from " + i, x.which(0, 1, i, 0), i == 3 ? 1 : 0);
    }

    private static void whichRefused() {
        of("24: BAD; NULL; CAST; INDEX; NOT: there is no LOT; NONE: there is none (1)");
        FishSteps x = fifty();
        x.sheet(1, 1, 2);
        for (int no : new int[] {-1, 4, MIN, MAX}) due("which(" + no + ", ..)", x.which(no, 1, 0, 0), -1);
        for (int no : new int[] {-1, 3, MIN, MAX}) due("which(.., " + no + ", ..)", x.which(1, no, 0, 0), -1);
        for (int no : new int[] {-1, 2, MIN, MAX}) due("which(.., " + no + ")", x.which(1, 1, 0, no), -1);
        due("which of nothing", x.which(0, 1, 0, 0), -11);
        due("which of another lane", x.which(1, 0, 0, 0), -12);
        due("which of another lane", x.which(1, 2, 0, 0), -12);
        due("which(.., 0) of none", x.which(1, 1, 0, 0), 0);
        due("which(.., 1) of none", x.which(1, 1, 0, 1), -4);
    }

    // ---- 25

    private static void filmItems() {
        of("25: THE MORNING, if it were held now, comes to a SHEET likewise (of nobody: -1, 0): how many items");
        for (int lane = 0; lane < 3; lane++) {
            FishSteps x = house("s99 f99", "000000");
            x.buyer(2, 99);
            x.worth(0, 0, 99);
            x.sheet(0, lane, 16);
            for (int i = 0; i < 16; i++) x.item(0, lane, i, 33);
            due("film from 3", x.film(0, lane, 3), 12);
            lots(x, "0");
            int[] items = {33, 33, 33, 0, 99, -1, 0, -1, 0, -1, 0, -1, 0, -1, 0, 33};
            for (int i = 0; i < 16; i++) itemIs(x, 0, lane, i, items[i]);
            due("count(2)", x.count(2), 0);
        }
    }

    private static void filmRefused() {
        of("25: BAD; NULL; CAST; INDEX; NOT: there is no LOT");
        FishSteps x = fifty();
        x.sheet(1, 1, 2);
        for (int no : new int[] {-1, 4, MIN, MAX}) due("film(" + no + ", ..)", x.film(no, 1, 0), -1);
        for (int no : new int[] {-1, 3, MIN, MAX}) due("film(.., " + no + ", ..)", x.film(1, no, 0), -1);
        due("film of nothing", x.film(0, 1, 0), -11);
        due("film of another lane", x.film(1, 0, 0), -12);
        due("film of another lane", x.film(1, 2, 0), -12);
        due("film from 1", x.film(1, 1, 1), -13);
        FishSteps none = withoutLots();
        none.sheet(0, 0, 0);
        due("film without lots", none.film(0, 0, 0), -2);
    }

    // ---- 26, 27

    private static void boundsOfSheet() {
        of("26: a row of 0 to 16 items. BAD: also n above 16; SIZE: n below 0");
        FishSteps x = new FishSteps();
        for (int s = 0; s < 4; s++) {
            for (int lane = 0; lane < 3; lane++) {
                due("sheet(.., 0)", x.sheet(s, lane, 0), 0);
                due("item 0 of none", x.item(s, lane, 0, 0), -13);
                due("sheet(.., 16)", x.sheet(s, lane, 16), 16);
                due("item 15 of 16", x.item(s, lane, 15, 0), 1);
                due("item 16 of 16", x.item(s, lane, 16, 0), -13);
                for (int no : new int[] {17, 18, 1000, MAX}) due("sheet(.., " + no + ")", x.sheet(s, lane, no), -1);
                for (int no : new int[] {-1, -2, MIN}) due("sheet(.., " + no + ")", x.sheet(s, lane, no), -14);
                due("item 15 behind refused ones", x.item(s, lane, 15, 0), 1);
            }
            for (int no : new int[] {-1, 3, MIN, MAX}) due("sheet(.., " + no + ", 1)", x.sheet(s, no, 1), -1);
        }
        for (int no : new int[] {-1, 4, MIN, MAX}) due("sheet(" + no + ", 0, 1)", x.sheet(no, 0, 1), -1);
    }

    private static void aNewRow() {
        of("26: A SHEET holds a new row of a LANE");
        FishSteps x = fifty();
        for (int lane = 0; lane < 3; lane++) {
            x.sheet(0, lane, 5);
            for (int i = 0; i < 5; i++) x.item(0, lane, i, 50);
            x.sheet(1, lane, 5);
            for (int i = 0; i < 5; i++) x.item(1, lane, i, 40);
            x.sheet(0, lane, 4);
            for (int i = 0; i < 4; i++) itemIs(x, 0, lane, i, 0);
            due("item(0, .., 4, ..)", x.item(0, lane, 4, 1), -13);
            for (int i = 0; i < 5; i++) itemIs(x, 1, lane, i, 40);
            due("of another lane", x.item(0, (lane + 1) % 3, 0, 1), -12);
        }
    }

    private static void boundsOfDrop() {
        of("27: A SHEET holds nothing: how many items it had. BAD; NULL");
        FishSteps x = new FishSteps();
        for (int s = 0; s < 4; s++) {
            due("drop(" + s + ") of a new object", x.drop(s), -11);
            for (int n = 0; n <= 16; n++) {
                x.sheet(s, n % 3, n);
                due("drop(" + s + ")", x.drop(s), n);
                due("drop(" + s + ") again", x.drop(s), -11);
                due("item of what was dropped", x.item(s, n % 3, 0, 0), -11);
            }
        }
        x.sheet(0, 0, 3);
        x.sheet(1, 1, 4);
        due("drop(0)", x.drop(0), 3);
        due("drop(1), another one", x.drop(1), 4);
        for (int no : new int[] {-1, 4, MIN, MAX}) due("drop(" + no + ")", x.drop(no), -1);
    }

    // ---- 28

    private static void itemsLowestBits() {
        of("28: becomes v (its lowest bits); 0 bytes, 1 ints, 2 longs (all with a sign)");
        FishSteps x = fifty();
        long[] values = {50, 50 + 256, 50 - 256, 50 + (1L << 32), 50 - (1L << 32), 50 + Long.MIN_VALUE, 50 + 0x7FFFFFFFFFFFFF00L};
        boolean[][] fits = {{true, true, true, true, true, true, true}, {true, false, false, true, true, true, false},
            {true, false, false, false, false, false, false}};
        for (int lane = 0; lane < 3; lane++) {
            x.sheet(0, lane, 2);
            for (int i = 0; i < values.length; i++) {
                due("item(.., " + values[i] + ")", x.item(0, lane, 1, values[i]), 1);
                due("which, lane " + lane + ", " + values[i], x.which(0, lane, 0, 0), fits[lane][i] ? 1 : 0);
            }
        }
    }

    private static void itemsSign() {
        of("28: all with a sign");
        FishSteps x = house("s1 f9", "0");
        long[] values = {-1, 255, 0xFFFFFFFFL, -1L << 8 | 255, 0x7FFFFFFFFFFFFFFFL, 127};
        boolean[][] fits = {{true, true, true, true, true, false}, {true, false, true, true, true, false},
            {true, false, false, true, false, false}};
        for (int lane = 0; lane < 3; lane++) {
            x.sheet(0, lane, 2);
            for (int i = 0; i < values.length; i++) {
                due("item(.., " + values[i] + ")", x.item(0, lane, 0, values[i]), 1);
                due("which, lane " + lane + ", " + values[i], x.which(0, lane, 0, 0), fits[lane][i] ? 1 : 0);
            }
        }
    }

    private static void boundsOfItem() {
        of("28: BAD; NULL; CAST; INDEX");
        FishSteps x = new FishSteps();
        for (int lane = 0; lane < 3; lane++) {
            due("item of nothing", x.item(lane, lane, 0, 1), -11);
            x.sheet(lane, lane, 3);
            for (int i = 0; i < 3; i++) due("item " + i, x.item(lane, lane, i, 1), 1);
            for (int no : new int[] {-1, 3, 4, 16, MIN, MAX}) due("item " + no, x.item(lane, lane, no, 1), -13);
            for (int other = 0; other < 3; other++) {
                if (other != lane) due("item of another lane", x.item(lane, other, 0, 1), -12);
            }
            for (int no : new int[] {-1, 3, MIN, MAX}) due("item of lane " + no, x.item(lane, no, 0, 1), -1);
        }
        for (int no : new int[] {-1, 4, MIN, MAX}) due("item of sheet " + no, x.item(no, 0, 0, 1), -1);
    }

    // ---- 29

    /** Sheet 0 of items 10, 11 .. and sheet 1 of 60, 61 .., both of a lane, of n and m items. */
    private static FishSteps twoSheets(int lane, int n, int m) {
        FishSteps x = fifty();
        x.sheet(0, lane, n);
        for (int i = 0; i < n; i++) x.item(0, lane, i, 10 + i);
        x.sheet(1, lane, m);
        for (int i = 0; i < m; i++) x.item(1, lane, i, 60 + i);
        return x;
    }

    private static void copyToAnother() {
        of("29: n items of a SHEET from i on come to another one from j on: n");
        for (int lane = 0; lane < 3; lane++) {
            FishSteps x = twoSheets(lane, 6, 8);
            due("copy(0, 1, 1, 3, 4)", x.copy(0, 1, 1, 3, 4), 4);
            int[] came = {60, 61, 62, 11, 12, 13, 14, 67};
            for (int i = 0; i < 8; i++) itemIs(x, 1, lane, i, came[i]);
            for (int i = 0; i < 6; i++) itemIs(x, 0, lane, i, 10 + i);
            FishSteps all = twoSheets(lane, 16, 16);
            due("copy of all", all.copy(0, 0, 1, 0, 16), 16);
            itemIs(all, 1, lane, 0, 10);
            itemIs(all, 1, lane, 15, 25);
        }
    }

    private static void copyToTheSame() {
        of("29: (or the same), as if all were taken ahead");
        for (int lane = 0; lane < 3; lane++) {
            FishSteps up = twoSheets(lane, 6, 6);
            due("copy(0, 0, 0, 2, 4)", up.copy(0, 0, 0, 2, 4), 4);
            int[] went = {10, 11, 10, 11, 12, 13};
            for (int i = 0; i < 6; i++) itemIs(up, 0, lane, i, went[i]);
            FishSteps down = twoSheets(lane, 6, 6);
            due("copy(0, 1, 0, 0, 5)", down.copy(0, 1, 0, 0, 5), 5);
            int[] came = {11, 12, 13, 14, 15, 15};
            for (int i = 0; i < 6; i++) itemIs(down, 0, lane, i, came[i]);
            FishSteps stay = twoSheets(lane, 6, 6);
            due("copy(0, 0, 0, 0, 6)", stay.copy(0, 0, 0, 0, 6), 6);
            for (int i = 0; i < 6; i++) itemIs(stay, 0, lane, i, 10 + i);
        }
    }

    private static void copyOfNone() {
        of("29: INDEX (n below 0, too; with n 0, too, if i or j is above how many there are)");
        FishSteps x = twoSheets(1, 4, 6);
        for (int i = 0; i <= 4; i++) {
            for (int j = 0; j <= 6; j++) due("copy(0, " + i + ", 1, " + j + ", 0)", x.copy(0, i, 1, j, 0), 0);
        }
        for (int no : new int[] {-1, 5, MIN, MAX}) due("copy(0, " + no + ", 1, 0, 0)", x.copy(0, no, 1, 0, 0), -13);
        for (int no : new int[] {-1, 7, MIN, MAX}) due("copy(0, 0, 1, " + no + ", 0)", x.copy(0, 0, 1, no, 0), -13);
        for (int no : new int[] {-1, -2, MIN}) {
            due("copy(0, 0, 1, 0, " + no + ")", x.copy(0, 0, 1, 0, no), -13);
            due("copy(0, 2, 1, 2, " + no + ")", x.copy(0, 2, 1, 2, no), -13);
            due("copy(0, " + -no + ", 1, 2, " + no + ")", x.copy(0, -no, 1, 2, no), -13);
        }
        for (int i = 0; i < 6; i++) itemIs(x, 1, 1, i, 60 + i);
    }

    private static void copyBehindTheEnd() {
        of("29: INDEX");
        FishSteps x = twoSheets(2, 4, 6);
        int[][] refused = {{0, 0, 5}, {1, 0, 4}, {4, 0, 1}, {0, 3, 4}, {0, 6, 1}, {-1, 0, 2}, {0, -1, 2}, {0, 0, 16}, {0, 0, MAX},
            {1, 1, MAX}, {MAX, 0, 1}, {0, MAX, 1}, {MAX, MAX, MAX}, {MAX, 0, 2}, {MIN, MIN, MIN}, {MIN, 0, MAX}};
        for (int[] a : refused) due("copy(0, " + a[0] + ", 1, " + a[1] + ", " + a[2] + ")", x.copy(0, a[0], 1, a[1], a[2]), -13);
        for (int i = 0; i < 6; i++) itemIs(x, 1, 2, i, 60 + i);
        due("copy to the end", x.copy(0, 2, 1, 4, 2), 2);
        itemIs(x, 1, 2, 5, 13);
    }

    private static void copyRefused() {
        of("29: BAD; NULL (either); CAST: of unlike LANES");
        FishSteps x = twoSheets(1, 4, 4);
        due("copy(0, 0, 2, 0, 1)", x.copy(0, 0, 2, 0, 1), -11);
        due("copy(2, 0, 0, 0, 1)", x.copy(2, 0, 0, 0, 1), -11);
        due("copy(2, 0, 3, 0, 0)", x.copy(2, 0, 3, 0, 0), -11);
        due("copy(2, 0, 2, 0, 0)", x.copy(2, 0, 2, 0, 0), -11);
        for (int lane = 0; lane < 3; lane++) {
            x.sheet(2, lane, 4);
            due("copy to lane " + lane, x.copy(0, 0, 2, 0, 1), lane == 1 ? 1 : -12);
            due("copy from lane " + lane, x.copy(2, 0, 0, 0, 0), lane == 1 ? 0 : -12);
        }
        for (int no : new int[] {-1, 4, MIN, MAX}) {
            due("copy(" + no + ", ..)", x.copy(no, 0, 1, 0, 1), -1);
            due("copy(.., " + no + ", ..)", x.copy(0, 0, no, 0, 1), -1);
        }
    }

    public static void main(String[] args) {
        whichWho();
        whichPrice();
        whichAllRings();
        whichFromItem();
        whichRefused();
        filmItems();
        filmRefused();
        boundsOfSheet();
        aNewRow();
        boundsOfDrop();
        itemsLowestBits();
        itemsSign();
        boundsOfItem();
        copyToAnother();
        copyToTheSame();
        copyOfNone();
        copyBehindTheEnd();
        copyRefused();
        end();
    }
}
