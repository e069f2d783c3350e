import java.util.ArrayList;
import java.util.Arrays;
import java.util.List;

/**
 * Long runs of chosen-by-number calls on FishSteps beside a model that was written from the document alone,
 * breath by breath and without any short cut. The numbers come from a fixed row, so every run is the same.
 */
public final class FishStepsModel {
    private static final int RUNS = 4000, CALLS = 512;
    private static final int[] WILD = {Integer.MIN_VALUE, Integer.MIN_VALUE + 1, -100, -3, -2, -1, 0, 1, 2, 3, 4, 5, 6, 7,
        8, 9, 10, 16, 17, 31, 32, 40, 41, 59, 60, 61, 99, 100, 999, 1000, 9999, Integer.MAX_VALUE - 1, Integer.MAX_VALUE};

    /** What a told answer is, by the document. */
    private static final class Model {
        int[] law = {60, 1, 1, 0, 0};
        List<Integer> lots = new ArrayList<>();
        List<int[]> buyers = new ArrayList<>(); // sort, margin, worths of kinds 0 .. 3, purse
        List<int[][]> spans = new ArrayList<>(); // of each kind: least, greatest
        int mornings = 0;
        String tape = "";
        Model image = null;
        long[][] sheets = new long[4][];
        int[] lanes = new int[4];

        // the course of one morning
        int[] who = new int[6], price = new int[6], breath = new int[6], bells = new int[6];
        int[] purse = new int[5], had = new int[5], gains = new int[5];
        int tillNow;

        boolean inRule(int what, long v) {
            switch (what) {
                case 0: return v >= 1 && v <= 99;
                case 1: return v >= 1 && v <= 9;
                case 2: return v >= 0 && v <= 99;
                case 3: return v == 0 || v == 1;
                case 4: return v >= 0 && v <= 99;
                default: return false;
            }
        }

        boolean no(int b) { return b < 0 || b >= buyers.size(); }

        int rule(int what, int v) {
            if (!inRule(what, v)) return -1;
            int was = law[what];
            law[what] = v;
            return was;
        }

        int buyer(int sort, int p) {
            if (sort < 0 || sort > 4 || p < 0 || p > 999) return -1;
            if (buyers.size() == 5) return -3;
            buyers.add(new int[] {sort, 0, 0, 0, 0, 0, p});
            spans.add(new int[][] {{0, 99}, {0, 99}, {0, 99}, {0, 99}});
            return buyers.size() - 1;
        }

        int worth(int b, int kind, int v) {
            if (no(b) || kind < 0 || kind > 3 || v < 0 || v > 99) return -1;
            int was = buyers.get(b)[2 + kind];
            buyers.get(b)[2 + kind] = v;
            return was;
        }

        int margin(int b, int v) {
            if (no(b) || v < 0 || v > 40) return -1;
            int was = buyers.get(b)[1];
            buyers.get(b)[1] = v;
            return was;
        }

        int told(int b, int what) {
            if (no(b) || what < 0 || what > 6) return -100001;
            return buyers.get(b)[what];
        }

        int earn(int b, int v) {
            if (no(b) || v < 1 || v > 999) return -100001;
            if (buyers.get(b)[6] + v > 9999) return -100003;
            buyers.get(b)[6] += v;
            return buyers.get(b)[6];
        }

        int type(long w, int n) {
            if (n < 1 || n > 8) return -1;
            String more = "";
            for (int i = n - 1; i >= 0; i--) {
                char c = (char) (w >>> (8 * i) & 0xff);
                if (c < 32 || c > 126) return -1;
                more += c;
            }
            if (tape.length() + n > 60) return -3;
            tape += more;
            return tape.length();
        }

        int rules() {
            String t = tape;
            tape = "";
            int[] next = law.clone();
            boolean[] said = new boolean[5];
            int many = 0;
            int at = 0;
            while (true) {
                while (at < t.length() && t.charAt(at) == ' ') at++;
                if (at == t.length()) return many > 0 ? takeLaw(next, many) : -20 - at;
                int r = "sdfbc".indexOf(t.charAt(at));
                if (r < 0 || said[r]) return -20 - at;
                said[r] = true;
                at++;
                while (at < t.length() && t.charAt(at) == ' ') at++;
                int first = at;
                String digits = "";
                while (at < t.length() && Character.isDigit(t.charAt(at))) digits += t.charAt(at++);
                if (digits.isEmpty()) return -20 - first;
                java.math.BigInteger v = new java.math.BigInteger(digits);
                if (v.bitLength() > 20 || !inRule(r, v.longValue())) return -20 - first;
                next[r] = v.intValue();
                many++;
            }
        }

        int takeLaw(int[] next, int many) {
            law = next;
            return many;
        }

        int lots() {
            String t = tape;
            tape = "";
            List<Integer> next = new ArrayList<>();
            for (int at = 0; at < t.length(); at++) {
                if (t.charAt(at) == ' ') continue;
                int k = "0123".indexOf(t.charAt(at));
                if (k < 0 || next.size() == 6) return -20 - at;
                next.add(k);
            }
            if (next.isEmpty()) return -20 - t.length();
            lots = next;
            return next.size();
        }

        int count(int what) {
            switch (what) {
                case 0: return lots.size();
                case 1: return buyers.size();
                case 2: return mornings;
                case 3: return (int) buyers.stream().filter(b -> b[6] < 0).count();
                case 4: return (int) lots.stream().distinct().count();
                default: return -1;
            }
        }

        // ---- a morning, breath by breath

        int margin(int b) { return buyers.get(b)[0] == 3 ? buyers.get(b)[1] / 2 : buyers.get(b)[1]; }
        int worthOf(int b, int kind) { return buyers.get(b)[2 + kind]; }
        boolean room(int b) { return had[b] < (buyers.get(b)[0] == 2 ? 2 : 1); }
        boolean can(int b, int p) { return purse[b] + (buyers.get(b)[0] == 4 ? law[4] : 0) >= p; }

        boolean coughs(int b, int kind, int p, int at, int ahead, int ring) {
            if (!room(b) || !can(b, p)) return false;
            if ((ring >> b & 1) == 1) {
                for (int o = 0; o < buyers.size(); o++) {
                    if ((ring >> o & 1) == 0 || o == b || !room(o)) continue;
                    if (worthOf(o, kind) > worthOf(b, kind)) return false;
                    if (worthOf(o, kind) == worthOf(b, kind) && o < b) return false;
                }
            }
            int limit = worthOf(b, kind) - margin(b);
            if (buyers.get(b)[0] == 1) return at > 0 && limit >= ahead;
            return limit >= p;
        }

        void start() {
            Arrays.fill(had, 0);
            Arrays.fill(gains, 0);
            for (int b = 0; b < buyers.size(); b++) purse[b] = buyers.get(b)[6];
            tillNow = 0;
        }

        void sell(int k, int w, int p) {
            who[k] = w;
            price[k] = p;
            had[w]++;
            purse[w] -= p;
            gains[w] += worthOf(w, lots.get(k)) - p;
            tillNow += p;
        }

        void falling(int k, int ring, boolean heard) {
            int kind = lots.get(k);
            who[k] = -1;
            breath[k] = -1;
            bells[k] = 0;
            int p = law[0], ahead = 0, last = 0;
            List<Integer> coughed = new ArrayList<>();
            for (int at = 0; p >= law[2]; at++) {
                breath[k] = at;
                last = p;
                coughed.clear();
                for (int b = 0; b < buyers.size(); b++) if (coughs(b, kind, p, at, ahead, ring)) coughed.add(b);
                ahead = p;
                if (coughed.isEmpty()) {
                    p -= law[1];
                } else if (coughed.size() == 1 || law[3] == 0 || bells[k] == 3) {
                    break;
                } else {
                    bells[k]++;
                    p = Math.min(law[0], p + 9);
                }
            }
            if (heard && breath[k] >= 0) hear(kind, last, coughed);
            if (!coughed.isEmpty()) sell(k, coughed.get(0), last);
        }

        void hear(int kind, int p, List<Integer> coughed) {
            for (int b = 0; b < buyers.size(); b++) {
                if (buyers.get(b)[0] == 1) continue;
                int bound = p + margin(b);
                if (bound > 99) bound = 99;
                int[] span = spans.get(b)[kind];
                if (coughed.contains(b)) {
                    if (bound > span[0]) span[0] = bound;
                } else if (room(b) && can(b, p) && bound - 1 < span[1]) {
                    span[1] = bound - 1;
                }
            }
        }

        void rising(int k) {
            int kind = lots.get(k);
            who[k] = -1;
            List<Integer> in = new ArrayList<>();
            for (int b = 0; b < buyers.size(); b++) {
                if (room(b) && can(b, law[2]) && worthOf(b, kind) >= law[2]) in.add(b);
            }
            if (in.isEmpty()) return;
            in.sort((a, b) -> worthOf(a, kind) != worthOf(b, kind) ? worthOf(b, kind) - worthOf(a, kind) : a - b);
            int w = in.get(0);
            int p = law[2];
            if (in.size() > 1) {
                p = Math.max(law[2], worthOf(in.get(1), kind) + 1);
                if (p > worthOf(w, kind)) p = worthOf(w, kind);
                while (!can(w, p)) p--;
            }
            sell(k, w, p);
        }

        void sealed(int k) {
            int kind = lots.get(k);
            who[k] = -1;
            int w = -1, most = 0;
            for (int b = 0; b < buyers.size(); b++) {
                int limit = worthOf(b, kind) - margin(b);
                if (!room(b) || limit < law[2] || !can(b, limit)) continue;
                if (w < 0 || limit > most) {
                    w = b;
                    most = limit;
                }
            }
            if (w >= 0) sell(k, w, most);
        }

        void hold(int ring) {
            start();
            for (int k = 0; k < lots.size(); k++) falling(k, ring, false);
        }

        int lot(int k, int what) {
            if (k < 0 || k >= lots.size() || what < 0 || what > 4) return -1;
            hold(0);
            switch (what) {
                case 0: return lots.get(k);
                case 1: return who[k] < 0 ? -4 : who[k];
                case 2: return who[k] < 0 ? -4 : price[k];
                case 3: return breath[k] < 0 ? -4 : breath[k];
                default: return bells[k];
            }
        }

        int gain(int b) {
            if (no(b)) return -100001;
            hold(0);
            return gains[b];
        }

        int till(int law) {
            if (law < 0 || law > 2) return -1;
            start();
            for (int k = 0; k < lots.size(); k++) {
                if (law == 0) falling(k, 0, false);
                else if (law == 1) rising(k);
                else sealed(k);
            }
            return tillNow;
        }

        int morning() {
            if (lots.isEmpty()) return -2;
            start();
            for (int k = 0; k < lots.size(); k++) falling(k, 0, true);
            for (int b = 0; b < buyers.size(); b++) buyers.get(b)[6] = purse[b];
            mornings++;
            return tillNow;
        }

        int span(int b, int kind, int what) {
            if (no(b) || kind < 0 || kind > 3 || what < 0 || what > 1) return -1;
            return spans.get(b)[kind][what];
        }

        int hush() {
            int many = 0;
            for (int[][] of : spans) {
                for (int[] s : of) {
                    if (s[0] != 0 || s[1] != 99) many++;
                    s[0] = 0;
                    s[1] = 99;
                }
            }
            return many;
        }

        int best(int b) {
            if (no(b)) return -1;
            int was = buyers.get(b)[1], best = 0, most = Integer.MIN_VALUE;
            for (int m = 0; m <= 40; m++) {
                buyers.get(b)[1] = m;
                hold(0);
                if (gains[b] > most) {
                    most = gains[b];
                    best = m;
                }
            }
            buyers.get(b)[1] = was;
            return best;
        }

        int rests(int b) {
            if (b < -1 || b > 4) return -1;
            int n = buyers.size();
            if (n == 0) return -2;
            if (b >= n) return -4;
            int[] was = new int[n];
            for (int o = 0; o < n; o++) was[o] = buyers.get(o)[1];
            int rows = 1;
            for (int o = 0; o < n; o++) rows *= 4;
            int[][] gain = new int[rows][];
            for (int r = 0; r < rows; r++) {
                int rest = r;
                for (int o = n - 1; o >= 0; o--) {
                    buyers.get(o)[1] = rest % 4 * 8;
                    rest /= 4;
                }
                hold(0);
                gain[r] = gains.clone();
            }
            for (int o = 0; o < n; o++) buyers.get(o)[1] = was[o];
            int many = 0, first = -1;
            for (int r = 0; r < rows; r++) {
                boolean rests = true;
                for (int o = n - 1, power = 1; o >= 0; o--, power *= 4) {
                    int mine = r / power % 4;
                    for (int d = 0; d < 4; d++) if (gain[r + (d - mine) * power][o] > gain[r][o]) rests = false;
                }
                if (rests && many++ == 0) first = r;
            }
            if (b < 0) return many;
            if (first < 0) return -4;
            for (int o = n - 1; o > b; o--) first /= 4;
            return first % 4 * 8;
        }

        int bestTill;
        int[] bestOrder;

        void tryOrders(int[] order, int placed) {
            int n = lots.size();
            if (placed == n) {
                start();
                for (int i = 0; i < n; i++) falling(order[i], 0, false);
                if (tillNow > bestTill) {
                    bestTill = tillNow;
                    bestOrder = order.clone();
                }
                return;
            }
            for (int k = 0; k < n; k++) {
                boolean used = false;
                for (int i = 0; i < placed; i++) used |= order[i] == k;
                if (used) continue;
                order[placed] = k;
                tryOrders(order, placed + 1);
            }
        }

        int order(int i) {
            if (i < -1 || i > 5) return -1;
            if (lots.isEmpty()) return -2;
            if (i >= lots.size()) return -4;
            bestTill = -1;
            tryOrders(new int[lots.size()], 0);
            return i < 0 ? bestTill : bestOrder[i];
        }

        int ring(int set) {
            if (set < 0 || set >= 1 << buyers.size() || Integer.bitCount(set) < 2) return -100001;
            int spared = 0;
            hold(set);
            for (int b = 0; b < 5; b++) if ((set >> b & 1) == 1) spared += gains[b];
            hold(0);
            for (int b = 0; b < 5; b++) if ((set >> b & 1) == 1) spared -= gains[b];
            return spared;
        }

        Model books() {
            Model m = new Model();
            m.law = law.clone();
            m.lots = new ArrayList<>(lots);
            for (int[] b : buyers) m.buyers.add(b.clone());
            for (int[][] s : spans) m.spans.add(new int[][] {s[0].clone(), s[1].clone(), s[2].clone(), s[3].clone()});
            m.mornings = mornings;
            return m;
        }

        int image() {
            image = books();
            return 1;
        }

        int restore() {
            if (image == null) return -4;
            Model m = image.books();
            law = m.law;
            lots = m.lots;
            buyers = m.buyers;
            spans = m.spans;
            mornings = m.mornings;
            return 1;
        }

        // ---- sheets

        int look(int s, int lane, long i, long n) {
            if (s < 0 || s > 3 || lane < 0 || lane > 2) return -1;
            if (sheets[s] == null) return -11;
            if (lanes[s] != lane) return -12;
            if (i < 0 || n < 0 || i + n > sheets[s].length) return -13;
            return 0;
        }

        void put(int s, int i, long v) {
            sheets[s][i] = lanes[s] == 0 ? (byte) v : lanes[s] == 1 ? (int) v : v;
        }

        int which(int s, int lane, int i, int what) {
            if (what < 0 || what > 1) return -1;
            int refused = look(s, lane, i, 2 * lots.size());
            if (refused != 0) return refused;
            if (lots.isEmpty()) return -2;
            int many = 0, least = -4;
            for (int set = 0; set < 1 << buyers.size(); set++) {
                if (Integer.bitCount(set) == 1) continue;
                hold(set);
                boolean so = true;
                for (int k = 0; k < lots.size(); k++) {
                    long w = sheets[s][i + 2 * k], p = sheets[s][i + 2 * k + 1];
                    so &= w == who[k] && (w == -1 || p == price[k]);
                }
                if (so && many++ == 0) least = set;
            }
            return what == 0 ? many : least;
        }

        int film(int s, int lane, int i) {
            int refused = look(s, lane, i, 2 * lots.size());
            if (refused != 0) return refused;
            if (lots.isEmpty()) return -2;
            hold(0);
            for (int k = 0; k < lots.size(); k++) {
                put(s, i + 2 * k, who[k]);
                put(s, i + 2 * k + 1, who[k] < 0 ? 0 : price[k]);
            }
            return 2 * lots.size();
        }

        int sheet(int s, int lane, int n) {
            if (s < 0 || s > 3 || lane < 0 || lane > 2 || n > 16) return -1;
            if (n < 0) return -14;
            sheets[s] = new long[n];
            lanes[s] = lane;
            return n;
        }

        int drop(int s) {
            if (s < 0 || s > 3) return -1;
            if (sheets[s] == null) return -11;
            int n = sheets[s].length;
            sheets[s] = null;
            return n;
        }

        int item(int s, int lane, int i, long v) {
            int refused = look(s, lane, i, 1);
            if (refused != 0) return refused;
            put(s, i, v);
            return 1;
        }

        int copy(int from, int i, int to, int j, int n) {
            if (from < 0 || from > 3 || to < 0 || to > 3) return -1;
            if (sheets[from] == null || sheets[to] == null) return -11;
            if (lanes[from] != lanes[to]) return -12;
            if (i < 0 || j < 0 || n < 0) return -13;
            if ((long) i + n > sheets[from].length || (long) j + n > sheets[to].length) return -13;
            long[] taken = Arrays.copyOfRange(sheets[from], i, i + n);
            for (int a = 0; a < n; a++) sheets[to][j + a] = taken[a];
            return n;
        }
    }

    // ---- the runs

    private static long seed;

    private static int below(int n) {
        seed = seed * 6364136223846793005L + 1442695040888963407L;
        return (int) ((seed >>> 33) % n);
    }

    private static int wild() { return WILD[below(WILD.length)]; }
    /** Mostly least .. most, now and then something else. */
    private static int in(int least, int most) { return below(25) == 0 ? wild() : least + below(most - least + 1); }
    private static int pick(int... of) { return of[below(of.length)]; }

    private static int wrong = 0, calls = 0;
    private static List<String> trace = new ArrayList<>();

    private static void same(String call, int got, int want) {
        calls++;
        trace.add(call + " = " + got);
        if (got == want) return;
        wrong++;
        if (wrong > 5) return;
        System.out.println("wrong behind:");
        for (String t : trace) System.out.println("  " + t);
        System.out.println("  due is " + want);
    }

    private static void type(FishSteps x, Model m, String text) {
        for (int at = 0; at < text.length(); at += 8) {
            int n = Math.min(8, text.length() - at);
            long w = below(2) == 0 ? 0 : -1;
            for (int i = 0; i < n; i++) w = w << 8 | text.charAt(at + i);
            same("type(\"" + text.substring(at, at + n) + "\")", x.type(w, n), m.type(w, n));
        }
    }

    private static String lawText() {
        StringBuilder t = new StringBuilder();
        int many = 1 + below(5);
        int[] letters = {0, 1, 2, 3, 4};
        for (int i = 0; i < many; i++) {
            int j = i + below(5 - i), was = letters[i];
            letters[i] = letters[j];
            letters[j] = was;
            int r = letters[i];
            t.append(pick(0, 0, 1) == 0 ? "" : "  ".substring(below(2))).append("sdfbc".charAt(r));
            t.append(below(3) == 0 ? " " : "").append(below(5) == 0 ? "00" : "");
            int most = new int[] {99, 9, 99, 1, 99}[r];
            t.append(r == 2 ? below(below(3) == 0 ? 100 : 40) : below(9) == 0 ? pick(0, most, most + 1, 9999) : below(most + 1));
        }
        return spoilt(t.append(below(4) == 0 ? "  " : "").toString());
    }

    private static String lotsText() {
        StringBuilder t = new StringBuilder();
        int many = below(6) == 0 ? below(8) : 3 + below(4);
        for (int i = 0; i < many; i++) t.append(below(6) == 0 ? " " : "").append(below(4));
        return spoilt(t.append(below(5) == 0 ? " " : "").toString());
    }

    private static String spoilt(String text) {
        if (below(5) != 0 || text.isEmpty()) return text;
        int at = below(text.length());
        return text.substring(0, at) + "sdfbc0123456789 -x~4".charAt(below(20)) + text.substring(at + below(2));
    }

    private static void tell(FishSteps x, Model m) {
        int b = in(0, 4), k = in(0, 3), v = below(3) == 0 ? in(0, 99) : in(40, 80);
        int g = below(3) == 0 ? in(0, 40) : in(0, 12), p = below(3) == 0 ? in(0, 60) : in(0, 999), r = in(0, 4), s = in(0, 4);
        int rv = r == 1 ? in(1, 9) : r == 3 ? in(0, 1) : r == 2 ? in(0, 30) : in(0, 99);
        switch (below(8)) {
            case 0: same("buyer(" + s + ", " + p + ")", x.buyer(s, p), m.buyer(s, p)); break;
            case 1: case 2: case 3:
                same("worth(" + b + ", " + k + ", " + v + ")", x.worth(b, k, v), m.worth(b, k, v)); break;
            case 4: same("margin(" + b + ", " + g + ")", x.margin(b, g), m.margin(b, g)); break;
            case 5: same("rule(" + r + ", " + rv + ")", x.rule(r, rv), m.rule(r, rv)); break;
            case 6: same("earn(" + b + ", " + p + ")", x.earn(b, p), m.earn(b, p)); break;
            default:
                if (below(2) == 0) {
                    type(x, m, lawText());
                    same("rules()", x.rules(), m.rules());
                } else {
                    type(x, m, lotsText());
                    same("lots()", x.lots(), m.lots());
                }
        }
    }

    private static void ask(FishSteps x, Model m) {
        int b = in(0, 4), k = in(0, 5), w = in(0, 6), f = in(0, 4), kind = in(0, 3), bit = in(0, 1), set = in(0, 31);
        switch (below(12)) {
            case 0: same("told(" + b + ", " + w + ")", x.told(b, w), m.told(b, w)); break;
            case 1: same("count(" + f + ")", x.count(f), m.count(f)); break;
            case 2: case 3: case 4: same("lot(" + k + ", " + f + ")", x.lot(k, f), m.lot(k, f)); break;
            case 5: same("gain(" + b + ")", x.gain(b), m.gain(b)); break;
            case 6: same("till(" + bit + ")", x.till(bit), m.till(bit)); break;
            case 7: same("till(2)", x.till(2), m.till(2)); break;
            case 8: same("span(" + b + ", " + kind + ", " + bit + ")", x.span(b, kind, bit), m.span(b, kind, bit)); break;
            case 9: same("best(" + b + ")", x.best(b), m.best(b)); break;
            default: same("ring(" + set + ")", x.ring(set), m.ring(set));
        }
    }

    private static void change(FishSteps x, Model m) {
        switch (below(12)) {
            case 0: same("hush()", x.hush(), m.hush()); break;
            case 1: same("image()", x.image(), m.image()); break;
            case 2: same("restore()", x.restore(), m.restore()); break;
            case 3: { int i = in(-1, 5); same("order(" + i + ")", x.order(i), m.order(i)); break; }
            case 4: { int i = in(-1, 4); same("rests(" + i + ")", x.rests(i), m.rests(i)); break; }
            default:
                same("morning()", x.morning(), m.morning());
                for (int b = 0; b < 5; b++) {
                    for (int kind = 0; kind < 4; kind++) {
                        for (int end = 0; end < 2; end++) {
                            same("span(" + b + ", " + kind + ", " + end + ")", x.span(b, kind, end), m.span(b, kind, end));
                        }
                    }
                }
        }
    }

    private static void sheets(FishSteps x, Model m) {
        int s = in(0, 3), t = in(0, 3), i = below(3) == 0 ? in(0, 16) : 0, j = in(0, 6), n = below(2) == 0 ? in(0, 16) : in(0, 5);
        int lane = s >= 0 && s < 4 && below(8) != 0 ? m.lanes[s] : in(0, 2), bit = in(0, 1);
        long v = below(3) == 0 ? seed : in(-1, 99);
        switch (below(10)) {
            case 0: { int l = in(0, 2); same("sheet(" + s + ", " + l + ", " + n + ")", x.sheet(s, l, n), m.sheet(s, l, n)); break; }
            case 1: same("drop(" + s + ")", x.drop(s), m.drop(s)); break;
            case 2: case 3:
                same("item(" + s + ", " + lane + ", " + i + ", " + v + ")", x.item(s, lane, i, v), m.item(s, lane, i, v)); break;
            case 4: case 5: {
                String call = "copy(" + s + ", " + i + ", " + t + ", " + j + ", " + n + ")";
                same(call, x.copy(s, i, t, j, n), m.copy(s, i, t, j, n));
                break;
            }
            case 6: case 7: same("film(" + s + ", " + lane + ", " + i + ")", x.film(s, lane, i), m.film(s, lane, i)); break;
            default:
                String call = "which(" + s + ", " + lane + ", " + i + ", " + bit + ")";
                same(call, x.which(s, lane, i, bit), m.which(s, lane, i, bit));
        }
    }

    /** A ring's morning as told items, which `which` must find again. */
    private static void filmRing(FishSteps x, Model m) {
        int lane = below(3);
        same("sheet(0, " + lane + ", 14)", x.sheet(0, lane, 14), m.sheet(0, lane, 14));
        int set = below(1 << m.buyers.size());
        m.hold(Integer.bitCount(set) == 1 ? 0 : set);
        int[] items = new int[2 * m.lots.size()];
        for (int k = 0; k < m.lots.size(); k++) {
            items[2 * k] = m.who[k];
            items[2 * k + 1] = m.who[k] < 0 ? 77 : m.price[k];
        }
        for (int i = 0; i < items.length; i++) {
            same("item(0, " + lane + ", " + (i + 2) + ", " + items[i] + ")", x.item(0, lane, i + 2, items[i]), m.item(0, lane, i + 2, items[i]));
        }
        for (int what = 0; what < 2; what++) {
            same("which(0, " + lane + ", 2, " + what + ")", x.which(0, lane, 2, what), m.which(0, lane, 2, what));
        }
    }

    private static void run(int number) {
        seed = number * 7919L + 17;
        for (int i = 0; i < 9; i++) below(2);
        trace.clear();
        FishSteps x = new FishSteps();
        Model m = new Model();
        int before = calls;
        if (number % 8 != 0) {
            for (int b = 0, many = 1 + below(5); b < many; b++) {
                int s = below(5), p = below(3) == 0 ? below(100) : below(1000);
                same("buyer(" + s + ", " + p + ")", x.buyer(s, p), m.buyer(s, p));
                for (int k = 0; k < 4; k++) {
                    int v = 30 + below(60);
                    same("worth(" + b + ", " + k + ", " + v + ")", x.worth(b, k, v), m.worth(b, k, v));
                }
            }
            type(x, m, lawText());
            same("rules()", x.rules(), m.rules());
            type(x, m, lotsText());
            same("lots()", x.lots(), m.lots());
            int bell = below(2);
            same("rule(3, " + bell + ")", x.rule(3, bell), m.rule(3, bell));
        }
        while (calls - before < CALLS - 60 && wrong == 0) {
            int turn = below(100);
            if (turn < 40) tell(x, m);
            else if (turn < 75) ask(x, m);
            else if (turn < 82) change(x, m);
            else if (turn < 98) sheets(x, m);
            else filmRing(x, m);
        }
    }

    public static void main(String[] args) {
        int runs = args.length > 0 ? Integer.parseInt(args[0]) : RUNS;
        for (int r = 0; r < runs && wrong == 0; r++) run(r);
        System.out.println(calls + " calls beside the model: " + (wrong == 0 ? "all alike" : wrong + " unlike"));
        if (wrong != 0) System.exit(1);
    }
}
