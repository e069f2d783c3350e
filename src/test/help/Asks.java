/** What the tests by hand share: an answer against the one that is due, and houses that are quickly told. */
class Asks {
    static final int MIN = Integer.MIN_VALUE, MAX = Integer.MAX_VALUE;

    private static int wrong = 0, asked = 0;
    private static String words = "";

    /** The promise, or the words of the document, that the next answers belong to. */
    static void of(String theWords) {
        words = theWords;
    }

    static void due(String call, long got, long want) {
        asked++;
        if (got == want) return;
        wrong++;
        System.out.println("\"" + words + "\": " + call + " answered " + got + ", due is " + want);
    }

    /** Tells how it went, and ends the run with 1 if an answer was not as due. */
    static void end() {
        System.out.println(asked + " answers asked for: " + (wrong == 0 ? "all as due" : wrong + " not as due"));
        if (wrong != 0) System.exit(1);
    }

    static void type(FishSteps x, String text) {
        for (int at = 0; at < text.length(); at += 8) {
            int n = Math.min(8, text.length() - at);
            long w = 0;
            for (int i = 0; i < n; i++) w = w << 8 | text.charAt(at + i);
            if (x.type(w, n) < 0) due("type(" + text + ")", -1, 0);
        }
    }

    static int rules(FishSteps x, String law) {
        type(x, law);
        return x.rules();
    }

    static int lots(FishSteps x, String kinds) {
        type(x, kinds);
        return x.lots();
    }

    /** A house by a law and lots; its buyers come by `come`. */
    static FishSteps house(String law, String kinds) {
        FishSteps x = new FishSteps();
        rules(x, law);
        lots(x, kinds);
        return x;
    }

    /** A buyer with one worth for all kinds: his number. */
    static int come(FishSteps x, int sort, int purse, int worth, int margin) {
        int b = x.buyer(sort, purse);
        for (int k = 0; k < 4; k++) x.worth(b, k, worth);
        x.margin(b, margin);
        return b;
    }

    /** Two plain buyers, and no lots. */
    static FishSteps withoutLots() {
        FishSteps x = new FishSteps();
        come(x, 0, 200, 50, 5);
        come(x, 0, 200, 50, 5);
        return x;
    }

    static void lotIs(FishSteps x, int lot, int who, int price, int breath, int bells) {
        due("lot(" + lot + ", 1)", x.lot(lot, 1), who);
        due("lot(" + lot + ", 2)", x.lot(lot, 2), price);
        due("lot(" + lot + ", 3)", x.lot(lot, 3), breath);
        due("lot(" + lot + ", 4)", x.lot(lot, 4), bells);
    }

    static void spanIs(FishSteps x, int buyer, int kind, int least, int most) {
        due("span(" + buyer + ", " + kind + ", 0)", x.span(buyer, kind, 0), least);
        due("span(" + buyer + ", " + kind + ", 1)", x.span(buyer, kind, 1), most);
    }

    /** That the rules are these; leaves them so. */
    static void lawIs(FishSteps x, int... law) {
        for (int r = 0; r < 5; r++) due("rule " + r, x.rule(r, law[r]), law[r]);
    }
}
