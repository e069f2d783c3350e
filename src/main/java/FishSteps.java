import java.util.Arrays;

/**
 * Prices that fall in silence: lots on the fish steps, their buyers, and what a morning brings.
 * The document DOC.md says what each call answers; words in capitals here are its words.
 */
public final class FishSteps {
    public static final int BAD = -1, NOT = -2, FULL = -3, NONE = -4, NULL = -11, CAST = -12, INDEX = -13, SIZE = -14;

    /** What a refusal is less by, where a told thing may itself be below 0. */
    private static final int LOWER = -100000;

    private static final int RULES = 5, LOTS = 6, KINDS = 4, BUYERS = 5, SHEETS = 4, LANES = 3, ITEMS = 16;
    private static final int START = 0, DROP = 1, FLOOR = 2, BELL = 3, CREDIT = 4;
    private static final int PLAIN = 0, DEAF = 1, FOR_TWO = 2, BOLD = 3, ON_CREDIT = 4;
    private static final int FALLING = 0, RISING = 1, SEALED = 2;

    private static final int[] RULE_FIRST = {60, 1, 1, 0, 0};
    private static final int[] RULE_LEAST = {1, 1, 0, 0, 0};
    private static final int[] RULE_MOST = {99, 9, 99, 1, 99};

    private static final int WORTH_MOST = 99, MARGIN_MOST = 40, PURSE_TOLD_MOST = 999, PURSE_MOST = 9999;
    private static final int MORNINGS_MOST = 9999;
    private static final int RINGS_OF_A_BELL = 3, BELL_UP = 9;

    /** RESTS looks at the MARGINS 0, 8, 16, 24: two bits of a row's number for each BUYER. */
    private static final int REST_STEP = 8, REST_ROWS = 1024;

    /** All orders of six LOTS. */
    private static final int ORDERS_MOST = 720;

    private final Books books = new Books();
    private final Books kept = new Books();
    private boolean hasImage = false;
    private final Steps steps = new Steps();
    private final Tape tape = new Tape();
    private final Sheets sheets = new Sheets();

    private final int[] restGains = new int[REST_ROWS * BUYERS];
    private int firstRest = -1;
    private final int[] row = new int[LOTS];
    private final int[] bestRow = new int[LOTS];
    private final int[] lawTold = new int[RULES];
    private final int[] lotsTold = new int[LOTS];

    public FishSteps() {
    }

    // ---- 1 rules, buyers

    public int rule(int what, int v) {
        if (!fitsRule(what, v)) {
            return BAD;
        }
        int was = books.law[what];
        books.law[what] = v;
        return was;
    }

    public int buyer(int sort, int purse) {
        if (sort < PLAIN || sort > ON_CREDIT || purse < 0 || purse > PURSE_TOLD_MOST) {
            return BAD;
        }
        if (books.buyers < 0 || books.buyers >= BUYERS) {
            return FULL;
        }
        int b = books.buyers;
        books.sort[b] = sort;
        books.purse[b] = purse;
        books.buyers = b + 1;
        return b;
    }

    public int worth(int buyer, int kind, int v) {
        if (!books.isThere(buyer) || !isKind(kind) || v < 0 || v > WORTH_MOST) {
            return BAD;
        }
        int at = buyer * KINDS + kind;
        int was = books.worth[at];
        books.worth[at] = v;
        return was;
    }

    public int margin(int buyer, int v) {
        if (!books.isThere(buyer) || v < 0 || v > MARGIN_MOST) {
            return BAD;
        }
        int was = books.margin[buyer];
        books.margin[buyer] = v;
        return was;
    }

    public int told(int buyer, int what) {
        if (!books.isThere(buyer) || what < 0 || what > KINDS + 2) {
            return LOWER + BAD;
        }
        if (what == 0) {
            return books.sort[buyer];
        }
        if (what == 1) {
            return books.margin[buyer];
        }
        if (what == KINDS + 2) {
            return books.purse[buyer];
        }
        return books.worthOf(buyer, what - 2);
    }

    public int earn(int buyer, int v) {
        if (!books.isThere(buyer) || v < 1 || v > PURSE_TOLD_MOST) {
            return LOWER + BAD;
        }
        int has = books.purse[buyer] + v;
        if (has > PURSE_MOST) {
            return LOWER + FULL;
        }
        books.purse[buyer] = has;
        return has;
    }

    public int type(long w, int n) {
        return tape.append(w, n);
    }

    public int rules() {
        int many = tape.readLaw(lawTold);
        tape.length = 0;
        for (int r = 0; many > 0 && r < RULES; r++) {
            if (fitsRule(r, lawTold[r])) {
                books.law[r] = lawTold[r];
            }
        }
        return many;
    }

    public int lots() {
        int many = tape.readLots(lotsTold);
        tape.length = 0;
        if (many >= 1 && many <= LOTS) {
            System.arraycopy(lotsTold, 0, books.kind, 0, LOTS);
            books.lots = many;
        }
        return many;
    }

    public int count(int what) {
        switch (what) {
            case 0:
                return books.lots;
            case 1:
                return books.buyers;
            case 2:
                return books.held;
            case 3:
                return books.countOwing();
            case 4:
                return books.countKinds();
            default:
                return BAD;
        }
    }

    // ---- 2 mornings

    public int lot(int lot, int what) {
        if (lot < 0 || lot >= LOTS || lot >= books.lots || what < 0 || what > 4) {
            return BAD;
        }
        if (what == 0) {
            return books.kind[lot];
        }
        steps.fallAsTold(books);
        if (what == 1) {
            return steps.who[lot] < 0 ? NONE : steps.who[lot];
        }
        if (what == 2) {
            return steps.who[lot] < 0 ? NONE : steps.price[lot];
        }
        if (what == 3) {
            return steps.breath[lot] < 0 ? NONE : steps.breath[lot];
        }
        return steps.bells[lot];
    }

    public int gain(int buyer) {
        if (!books.isThere(buyer)) {
            return LOWER + BAD;
        }
        steps.fallAsTold(books);
        return steps.gained[buyer];
    }

    public int till(int law) {
        if (law < FALLING || law > SEALED) {
            return BAD;
        }
        steps.takeMargins(books);
        return steps.tillBy(books, law);
    }

    public int morning() {
        if (books.lots <= 0) {
            return NOT;
        }
        if (books.held >= MORNINGS_MOST) {
            return FULL;
        }
        steps.takeMargins(books);
        steps.begin(books);
        int sum = 0;
        for (int k = 0; k < LOTS && k < books.lots; k++) {
            steps.fallLot(books, k, 0);
            steps.hear(books, k);
            sum += steps.settle(books, k);
        }
        System.arraycopy(steps.purse, 0, books.purse, 0, BUYERS);
        books.held++;
        return sum;
    }

    public int span(int buyer, int kind, int what) {
        if (!books.isThere(buyer) || !isKind(kind) || what < 0 || what > 1) {
            return BAD;
        }
        int at = buyer * KINDS + kind;
        return what == 0 ? books.least[at] : books.most[at];
    }

    public int hush() {
        return books.widenSpans();
    }

    // ---- 3 what would be best

    public int best(int buyer) {
        if (!books.isThere(buyer)) {
            return BAD;
        }
        steps.takeMargins(books);
        int best = 0;
        int most = 0;
        for (int m = 0; m <= MARGIN_MOST; m++) {
            steps.margin[buyer] = m;
            steps.fall(books, 0);
            int gained = steps.gained[buyer];
            if (m == 0 || gained > most) {
                best = m;
                most = gained;
            }
        }
        return best;
    }

    public int rests(int buyer) {
        if (buyer < -1 || buyer >= BUYERS) {
            return BAD;
        }
        if (books.buyers <= 0) {
            return NOT;
        }
        if (buyer >= books.buyers) {
            return NONE;
        }
        int many = countRests();
        if (buyer < 0) {
            return many;
        }
        return firstRest < 0 ? NONE : REST_STEP * digitOf(firstRest, buyer);
    }

    public int order(int i) {
        if (i < -1 || i >= LOTS) {
            return BAD;
        }
        if (books.lots <= 0) {
            return NOT;
        }
        if (i >= books.lots) {
            return NONE;
        }
        int most = findBestRow();
        return i < 0 ? most : bestRow[i];
    }

    public int ring(int set) {
        if (!isRing(set)) {
            return LOWER + BAD;
        }
        steps.takeMargins(books);
        steps.fall(books, set);
        int together = steps.gainOf(set);
        steps.fall(books, 0);
        return together - steps.gainOf(set);
    }

    public int image() {
        kept.take(books);
        hasImage = true;
        return 1;
    }

    public int restore() {
        if (!hasImage) {
            return NONE;
        }
        books.take(kept);
        return 1;
    }

    // ---- 4 sheets 0 .. 3: nothing (at first), or a row of a LANE: 0 bytes, 1 ints, 2 longs, of 0 to 16 items

    public int which(int sheet, int lane, int i, int what) {
        if (what < 0 || what > 1) {
            return BAD;
        }
        int refused = sheets.refuse(sheet, lane, i, 2 * books.lots);
        if (refused < 0) {
            return refused;
        }
        if (books.lots <= 0) {
            return NOT;
        }
        int many = 0;
        int least = NONE;
        steps.takeMargins(books);
        for (int set = 0; set < 1 << BUYERS; set++) {
            if (set != 0 && !isRing(set)) {
                continue;
            }
            steps.fall(books, set);
            if (isAsFilmed(sheet, i)) {
                least = many == 0 ? set : least;
                many++;
            }
        }
        return what == 0 ? many : least;
    }

    public int film(int sheet, int lane, int i) {
        int refused = sheets.refuse(sheet, lane, i, 2 * books.lots);
        if (refused < 0) {
            return refused;
        }
        if (books.lots <= 0) {
            return NOT;
        }
        steps.fallAsTold(books);
        for (int k = 0; k < LOTS && k < books.lots; k++) {
            boolean nobody = steps.who[k] < 0;
            sheets.put(sheet, i + 2 * k, nobody ? -1 : steps.who[k]);
            sheets.put(sheet, i + 2 * k + 1, nobody ? 0 : steps.price[k]);
        }
        return 2 * books.lots;
    }

    public int sheet(int sheet, int lane, int n) {
        if (!isSheet(sheet) || !isLane(lane) || n > ITEMS) {
            return BAD;
        }
        if (n < 0) {
            return SIZE;
        }
        sheets.lay(sheet, lane, n);
        return n;
    }

    public int drop(int sheet) {
        if (!isSheet(sheet)) {
            return BAD;
        }
        if (sheets.lane[sheet] < 0) {
            return NULL;
        }
        sheets.lane[sheet] = -1;
        return sheets.size[sheet];
    }

    public int item(int sheet, int lane, int i, long v) {
        int refused = sheets.refuse(sheet, lane, i, 1);
        if (refused < 0) {
            return refused;
        }
        sheets.put(sheet, i, v);
        return 1;
    }

    public int copy(int from, int i, int to, int j, int n) {
        if (!isSheet(from) || !isSheet(to)) {
            return BAD;
        }
        if (sheets.lane[from] < 0 || sheets.lane[to] < 0) {
            return NULL;
        }
        if (sheets.lane[from] != sheets.lane[to]) {
            return CAST;
        }
        if (!sheets.holds(from, i, n) || !sheets.holds(to, j, n)) {
            return INDEX;
        }
        // arraycopy moves overlapping items as if all were taken ahead
        System.arraycopy(sheets.items, from * ITEMS + i, sheets.items, to * ITEMS + j, n);
        return n;
    }

    // ---- what the calls share

    private static boolean fitsRule(int what, int v) {
        return what >= 0 && what < RULES && v >= RULE_LEAST[what] && v <= RULE_MOST[what];
    }

    private static boolean isKind(int kind) {
        return kind >= 0 && kind < KINDS;
    }

    private static boolean isSheet(int sheet) {
        return sheet >= 0 && sheet < SHEETS;
    }

    private static boolean isLane(int lane) {
        return lane >= 0 && lane < LANES;
    }

    private boolean isRing(int set) {
        return set >= 0 && set < 1 << books.buyers && Integer.bitCount(set) >= 2;
    }

    /** Whether the morning on the steps went as the items of a sheet from i on tell. */
    private boolean isAsFilmed(int sheet, int i) {
        for (int k = 0; k < LOTS && k < books.lots; k++) {
            int who = steps.who[k];
            if (sheets.peek(sheet, i + 2 * k) != who) {
                return false;
            }
            if (who >= 0 && sheets.peek(sheet, i + 2 * k + 1) != steps.price[k]) {
                return false;
            }
        }
        return true;
    }

    /** A BUYER's digit 0 .. 3 in the number of a row of MARGINS; the first BUYER's is the highest. */
    private int digitOf(int rowNumber, int buyer) {
        return rowNumber >> digitShift(buyer) & 3;
    }

    private int digitShift(int buyer) {
        return 2 * (books.buyers - 1 - buyer);
    }

    private int countRests() {
        int rows = Math.min(REST_ROWS, 1 << 2 * books.buyers);
        for (int r = 0; r < rows; r++) {
            for (int b = 0; b < BUYERS && b < books.buyers; b++) {
                steps.margin[b] = REST_STEP * digitOf(r, b);
            }
            steps.fall(books, 0);
            System.arraycopy(steps.gained, 0, restGains, r * BUYERS, BUYERS);
        }
        int many = 0;
        firstRest = -1;
        for (int r = 0; r < rows; r++) {
            if (isAtRest(r, rows)) {
                firstRest = many == 0 ? r : firstRest;
                many++;
            }
        }
        return many;
    }

    private boolean isAtRest(int r, int rows) {
        if (r < 0 || r >= rows || rows > REST_ROWS) {
            return false;
        }
        for (int b = 0; b < BUYERS && b < books.buyers; b++) {
            int shift = digitShift(b);
            int others = r & ~(3 << shift);
            for (int digit = 0; digit < 4; digit++) {
                int other = others | digit << shift;
                if (other >= 0 && other < rows && restGains[other * BUYERS + b] > restGains[r * BUYERS + b]) {
                    return false;
                }
            }
        }
        return true;
    }

    /** Puts into bestRow the order of lots that brings most, and answers what it brings. */
    private int findBestRow() {
        int n = Math.max(0, Math.min(LOTS, books.lots));
        steps.takeMargins(books);
        for (int k = 0; k < n; k++) {
            row[k] = k;
        }
        int most = -1;
        boolean more = true;
        for (int turn = 0; more && turn < ORDERS_MOST; turn++) {
            if (isFirstOfItsLike(n)) {
                int sum = tillOfRow(n);
                if (sum > most) {
                    most = sum;
                    System.arraycopy(row, 0, bestRow, 0, n);
                }
            }
            more = nextRow(n);
        }
        return most;
    }

    /** Lots of one kind bring the same in each other's places, so only the row that has them in order counts. */
    private boolean isFirstOfItsLike(int n) {
        for (int late = 1; late < LOTS && late < n; late++) {
            for (int early = 0; early < late; early++) {
                if (row[early] > row[late] && books.kindOf(row[early]) == books.kindOf(row[late])) {
                    return false;
                }
            }
        }
        return true;
    }

    private int tillOfRow(int n) {
        steps.begin(books);
        int sum = 0;
        for (int k = 0; k < LOTS && k < n; k++) {
            steps.fallLot(books, row[k], 0);
            sum += steps.settle(books, row[k]);
        }
        return sum;
    }

    /** Makes of row the next one by numbers; false behind the last. */
    private boolean nextRow(int n) {
        if (n < 0 || n > LOTS) {
            return false;
        }
        int up = n - 2;
        while (up >= 0 && row[up] > row[up + 1]) {
            up--;
        }
        if (up < 0) {
            return false;
        }
        int above = n - 1;
        while (above > up + 1 && row[above] < row[up]) {
            above--;
        }
        swapInRow(up, above);
        int low = up + 1;
        int high = n - 1;
        while (low < high) {
            swapInRow(low, high);
            low++;
            high--;
        }
        return true;
    }

    private void swapInRow(int a, int b) {
        if (a < 0 || a >= LOTS || b < 0 || b >= LOTS) {
            return;
        }
        int was = row[a];
        row[a] = row[b];
        row[b] = was;
    }

    /** All that an image keeps. */
    private static final class Books {
        private final int[] law = RULE_FIRST.clone();
        private int lots = 0;
        private final int[] kind = new int[LOTS];
        private int buyers = 0;
        private final int[] sort = new int[BUYERS];
        private final int[] purse = new int[BUYERS];
        private final int[] margin = new int[BUYERS];
        private final int[] worth = new int[BUYERS * KINDS];
        private final int[] least = new int[BUYERS * KINDS];
        private final int[] most = new int[BUYERS * KINDS];
        private int held = 0;

        private Books() {
            Arrays.fill(most, WORTH_MOST);
        }

        private void take(Books other) {
            System.arraycopy(other.law, 0, law, 0, RULES);
            lots = other.lots;
            System.arraycopy(other.kind, 0, kind, 0, LOTS);
            buyers = other.buyers;
            System.arraycopy(other.sort, 0, sort, 0, BUYERS);
            System.arraycopy(other.purse, 0, purse, 0, BUYERS);
            System.arraycopy(other.margin, 0, margin, 0, BUYERS);
            System.arraycopy(other.worth, 0, worth, 0, BUYERS * KINDS);
            System.arraycopy(other.least, 0, least, 0, BUYERS * KINDS);
            System.arraycopy(other.most, 0, most, 0, BUYERS * KINDS);
            held = other.held;
        }

        private boolean isThere(int buyer) {
            return buyer >= 0 && buyer < BUYERS && buyer < buyers;
        }

        private int kindOf(int lot) {
            return lot >= 0 && lot < LOTS ? kind[lot] : 0;
        }

        private int worthOf(int buyer, int ofKind) {
            if (!isThere(buyer) || !isKind(ofKind)) {
                return 0;
            }
            return worth[buyer * KINDS + ofKind];
        }

        private int countOwing() {
            int many = 0;
            for (int b = 0; b < BUYERS && b < buyers; b++) {
                many += purse[b] < 0 ? 1 : 0;
            }
            return many;
        }

        private int countKinds() {
            int seen = 0;
            for (int k = 0; k < LOTS && k < lots; k++) {
                seen |= 1 << kind[k];
            }
            return Integer.bitCount(seen);
        }

        private int widenSpans() {
            int many = 0;
            for (int at = 0; at < BUYERS * KINDS; at++) {
                if (least[at] != 0 || most[at] != WORTH_MOST) {
                    many++;
                }
                least[at] = 0;
                most[at] = WORTH_MOST;
            }
            return many;
        }

        private void narrowSpan(int buyer, int ofKind, int bound, boolean noLess) {
            if (!isThere(buyer) || !isKind(ofKind)) {
                return;
            }
            int at = buyer * KINDS + ofKind;
            if (noLess) {
                least[at] = Math.max(least[at], bound);
            } else {
                most[at] = Math.min(most[at], bound - 1);
            }
        }
    }

    /** A morning as it goes on: what each buyer has by then, and how each lot went. */
    private static final class Steps {
        /** Above all limits: what a deaf one heard ahead of breath 0. */
        private static final int NOTHING_HEARD = 1000;

        private final int[] margin = new int[BUYERS];
        private final int[] purse = new int[BUYERS];
        private final int[] had = new int[BUYERS];
        private final int[] gained = new int[BUYERS];

        // of the lot that is on the steps: who may cough at all, up to what, and who did at its last breath
        private final int[] limit = new int[BUYERS];
        private final int[] money = new int[BUYERS];
        private int open = 0;
        private int coughed = 0;

        // of each lot; of nobody the price is that of its last breath
        private final int[] who = new int[LOTS];
        private final int[] price = new int[LOTS];
        private final int[] breath = new int[LOTS];
        private final int[] bells = new int[LOTS];

        private void takeMargins(Books books) {
            System.arraycopy(books.margin, 0, margin, 0, BUYERS);
        }

        private void begin(Books books) {
            System.arraycopy(books.purse, 0, purse, 0, BUYERS);
            Arrays.fill(had, 0);
            Arrays.fill(gained, 0);
        }

        private void fallAsTold(Books books) {
            takeMargins(books);
            fall(books, 0);
        }

        /** THE MORNING by the margins that stand here, by a ring or (0) none. */
        private void fall(Books books, int ring) {
            begin(books);
            for (int k = 0; k < LOTS && k < books.lots; k++) {
                fallLot(books, k, ring);
                settle(books, k);
            }
        }

        private int tillBy(Books books, int law) {
            begin(books);
            int sum = 0;
            for (int k = 0; k < LOTS && k < books.lots; k++) {
                if (law == RISING) {
                    riseLot(books, k);
                } else if (law == SEALED) {
                    openSealed(books, k);
                } else {
                    fallLot(books, k, 0);
                }
                sum += settle(books, k);
            }
            return sum;
        }

        private int gainOf(int set) {
            int sum = 0;
            for (int b = 0; b < BUYERS; b++) {
                sum += isIn(set, b) ? gained[b] : 0;
            }
            return sum;
        }

        /** Lot k falls till one has it or it goes back; nobody pays yet. */
        private void fallLot(Books books, int k, int ring) {
            if (k < 0 || k >= LOTS) {
                return;
            }
            ready(books, books.kind[k]);
            open &= ~silentOf(books, books.kind[k], ring);
            int start = books.law[START];
            int floor = books.law[FLOOR];
            int drop = books.law[DROP];
            who[k] = -1;
            price[k] = start;
            breath[k] = -1;
            bells[k] = 0;
            if (start < floor || drop <= 0) {
                return;
            }
            breath[k] = 0;
            int ahead = NOTHING_HEARD;
            for (int rung = 0; rung <= RINGS_OF_A_BELL; rung++) {
                coughed = coughsAt(books, price[k], ahead);
                if (coughed == 0) {
                    int top = nextCough(books, drop);
                    int down = Math.max(1, (price[k] - top + drop - 1) / drop);
                    boolean back = price[k] - down * drop < floor;
                    down = back ? (price[k] - floor) / drop : down;
                    breath[k] += down;
                    price[k] -= down * drop;
                    if (back) {
                        return;
                    }
                    coughed = coughsAt(books, price[k], price[k] + drop);
                }
                boolean alone = Integer.bitCount(coughed) == 1;
                if (alone || books.law[BELL] == 0 || rung == RINGS_OF_A_BELL) {
                    who[k] = firstOf(coughed);
                    return;
                }
                bells[k]++;
                breath[k]++;
                ahead = price[k];
                price[k] = Math.min(start, price[k] + BELL_UP);
            }
        }

        /** Those that cough at a price; ahead is the price of the breath ahead. */
        private int coughsAt(Books books, int now, int ahead) {
            int set = 0;
            for (int b = 0; b < BUYERS; b++) {
                int heard = books.sort[b] == DEAF ? ahead : now;
                if (isIn(open, b) && now <= money[b] && heard <= limit[b]) {
                    set |= 1 << b;
                }
            }
            return set;
        }

        /** The greatest price, of those that come by drops alone, at which somebody coughs; -1 if nobody ever does. */
        private int nextCough(Books books, int drop) {
            int top = -1;
            for (int b = 0; b < BUYERS; b++) {
                if (isIn(open, b)) {
                    int late = books.sort[b] == DEAF ? drop : 0;
                    top = Math.max(top, Math.min(money[b], limit[b] - late));
                }
            }
            return top;
        }

        private void riseLot(Books books, int k) {
            if (k < 0 || k >= LOTS) {
                return;
            }
            int kind = books.kind[k];
            int floor = books.law[FLOOR];
            ready(books, kind);
            int first = -1;
            int most = -1;
            int second = -1;
            for (int b = 0; b < BUYERS; b++) {
                int worth = books.worthOf(b, kind);
                if (!isIn(open, b) || money[b] < floor || worth < floor) {
                    continue;
                }
                if (worth > most) {
                    second = most;
                    most = worth;
                    first = b;
                } else {
                    second = Math.max(second, worth);
                }
            }
            who[k] = first;
            price[k] = floor;
            if (first >= 0 && first < BUYERS && second >= 0) {
                price[k] = Math.min(Math.max(floor, second + 1), Math.min(most, money[first]));
            }
        }

        private void openSealed(Books books, int k) {
            if (k < 0 || k >= LOTS) {
                return;
            }
            ready(books, books.kind[k]);
            who[k] = -1;
            price[k] = books.law[FLOOR];
            for (int b = 0; b < BUYERS; b++) {
                boolean more = who[k] < 0 ? limit[b] >= price[k] : limit[b] > price[k];
                if (isIn(open, b) && more && money[b] >= limit[b]) {
                    who[k] = b;
                    price[k] = limit[b];
                }
            }
        }

        /** Who has ROOM, and each one's LIMIT and what he can pay at most, for a lot of a kind. */
        private void ready(Books books, int kind) {
            open = 0;
            coughed = 0;
            for (int b = 0; b < BUYERS && b < books.buyers; b++) {
                int sort = books.sort[b];
                if (had[b] < (sort == FOR_TWO ? 2 : 1)) {
                    open |= 1 << b;
                }
                limit[b] = books.worthOf(b, kind) - charge(books, b);
                money[b] = purse[b] + (sort == ON_CREDIT ? books.law[CREDIT] : 0);
            }
        }

        /** What a MARGIN takes off a WORTH. */
        private int charge(Books books, int b) {
            return books.sort[b] == BOLD ? margin[b] / 2 : margin[b];
        }

        /** Those of a ring that leave a lot to the one of it that has room and the greatest worth. */
        private int silentOf(Books books, int kind, int ring) {
            int voice = -1;
            int most = -1;
            for (int b = 0; ring != 0 && b < BUYERS; b++) {
                if (isIn(ring, b) && isIn(open, b) && books.worthOf(b, kind) > most) {
                    voice = b;
                    most = books.worthOf(b, kind);
                }
            }
            return voice < 0 ? ring : ring & ~(1 << voice);
        }

        /** HEARD of lot k, which has just fallen, ahead of its being paid. */
        private void hear(Books books, int k) {
            if (k < 0 || k >= LOTS || breath[k] < 0) {
                return;
            }
            for (int b = 0; b < BUYERS; b++) {
                if (isIn(open, b) && books.sort[b] != DEAF && money[b] >= price[k]) {
                    int bound = Math.min(WORTH_MOST, price[k] + charge(books, b));
                    books.narrowSpan(b, books.kind[k], bound, isIn(coughed, b));
                }
            }
        }

        /** Who has lot k pays it: what comes to the till. */
        private int settle(Books books, int k) {
            if (k < 0 || k >= LOTS || who[k] < 0 || who[k] >= BUYERS) {
                return 0;
            }
            int b = who[k];
            had[b]++;
            purse[b] -= price[k];
            gained[b] += books.worthOf(b, books.kind[k]) - price[k];
            return price[k];
        }

        private static boolean isIn(int set, int b) {
            return (set >> b & 1) == 1;
        }

        private static int firstOf(int set) {
            for (int b = 0; b < BUYERS; b++) {
                if (isIn(set, b)) {
                    return b;
                }
            }
            return -1;
        }
    }

    /** THE TAPE, and the texts that are read from it. */
    private static final class Tape {
        private static final int BYTES = 60, BLANK = 32, LAST_BYTE = 126;
        private static final int FAULT = -20;
        /** Above all numbers that a rule may have: greater ones are read as this. */
        private static final int TOO_MUCH = 1000;

        private final byte[] bytes = new byte[BYTES];
        private int length = 0;

        private int append(long w, int n) {
            if (n < 1 || n > 8) {
                return BAD;
            }
            for (int i = 0; i < n; i++) {
                int one = byteOf(w, i);
                if (one < BLANK || one > LAST_BYTE) {
                    return BAD;
                }
            }
            if (length < 0 || length + n > BYTES) {
                return FULL;
            }
            for (int i = n - 1; i >= 0; i--) {
                bytes[length] = (byte) byteOf(w, i);
                length++;
            }
            return length;
        }

        private static int byteOf(long w, int i) {
            return (int) (w >> 8 * i & 255);
        }

        /** The numbers of a LAW, -1 for rules that it leaves: how many it has, or a FAULT. */
        private int readLaw(int[] told) {
            Arrays.fill(told, -1);
            int many = 0;
            int at = behindBlanks(0);
            do {
                int rule = ruleAt(at);
                if (rule < 0 || rule >= told.length || told[rule] >= 0) {
                    return FAULT - at;
                }
                int first = behindBlanks(at + 1);
                int end = behindDigits(first);
                int number = numberAt(first, end);
                if (end == first || !fitsRule(rule, number)) {
                    return FAULT - first;
                }
                told[rule] = number;
                many++;
                at = behindBlanks(end);
            } while (at < length && many <= RULES);
            return many;
        }

        /** The kinds of LOTS: how many there are, or a FAULT. */
        private int readLots(int[] told) {
            int many = 0;
            int at = behindBlanks(0);
            do {
                int kind = charAt(at) - '0';
                if (!isKind(kind) || many >= told.length) {
                    return FAULT - at;
                }
                told[many] = kind;
                many++;
                at = behindBlanks(at + 1);
            } while (at < length && many <= LOTS);
            return many;
        }

        /** The byte at a place; 0, which is never on the tape, at the end. */
        private int charAt(int at) {
            return at >= 0 && at < length && at < BYTES ? bytes[at] : 0;
        }

        private int ruleAt(int at) {
            switch (charAt(at)) {
                case 's':
                    return START;
                case 'd':
                    return DROP;
                case 'f':
                    return FLOOR;
                case 'b':
                    return BELL;
                case 'c':
                    return CREDIT;
                default:
                    return -1;
            }
        }

        private int behindBlanks(int from) {
            int at = from;
            while (at < length && charAt(at) == BLANK) {
                at++;
            }
            return at;
        }

        private int behindDigits(int from) {
            int at = from;
            while (at < length && charAt(at) >= '0' && charAt(at) <= '9') {
                at++;
            }
            return at;
        }

        private int numberAt(int first, int end) {
            int number = 0;
            for (int at = first; at < end; at++) {
                number = Math.min(TOO_MUCH, number * 10 + charAt(at) - '0');
            }
            return number;
        }
    }

    /** The sheets' rows, all in one; a sheet of lane -1 holds nothing. */
    private static final class Sheets {
        private final int[] lane = {-1, -1, -1, -1};
        private final int[] size = new int[SHEETS];
        private final long[] items = new long[SHEETS * ITEMS];

        private void lay(int sheet, int ofLane, int n) {
            if (!isSheet(sheet) || !isLane(ofLane) || n < 0 || n > ITEMS) {
                return;
            }
            lane[sheet] = ofLane;
            size[sheet] = n;
            Arrays.fill(items, sheet * ITEMS, sheet * ITEMS + ITEMS, 0L);
        }

        /** Below 0: why n items from i on can't be taken of a sheet as a row of a lane. */
        private int refuse(int sheet, int asLane, int i, int n) {
            if (!isSheet(sheet) || !isLane(asLane)) {
                return BAD;
            }
            if (lane[sheet] < 0) {
                return NULL;
            }
            if (lane[sheet] != asLane) {
                return CAST;
            }
            return holds(sheet, i, n) ? 0 : INDEX;
        }

        private boolean holds(int sheet, int i, int n) {
            return isSheet(sheet) && n >= 0 && n <= ITEMS && i >= 0 && i <= size[sheet] - n;
        }

        private long peek(int sheet, int i) {
            return holds(sheet, i, 1) ? items[sheet * ITEMS + i] : 0L;
        }

        private void put(int sheet, int i, long v) {
            if (!holds(sheet, i, 1)) {
                return;
            }
            int at = sheet * ITEMS + i;
            if (lane[sheet] == 0) {
                items[at] = (byte) v;
            } else if (lane[sheet] == 1) {
                items[at] = (int) v;
            } else {
                items[at] = v;
            }
        }
    }
}
