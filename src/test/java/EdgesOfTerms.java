import java.util.ArrayList;
import java.util.List;

/** 'Terms' up to part 1: which answer comes first of several, what a refused call changes, what is less by 100000. */
public final class EdgesOfTerms extends Asks {

    /** Something that is done to an object. */
    private interface Deed {
        int on(FishSteps x);
    }

    // ---- of several BAD ahead of all others

    private static void badAheadOfFull() {
        of("of several BAD ahead of all others: of FULL");
        FishSteps x = new FishSteps();
        for (int b = 0; b < 5; b++) x.buyer(0, 999);
        due("buyer(0, 1)", x.buyer(0, 1), -3);
        due("buyer(-1, 1)", x.buyer(-1, 1), -1);
        due("buyer(5, 1)", x.buyer(5, 1), -1);
        due("buyer(0, -1)", x.buyer(0, -1), -1);
        due("buyer(0, 1000)", x.buyer(0, 1000), -1);
        for (int i = 0; i < 9; i++) x.earn(0, 999);
        x.earn(0, 9);
        due("earn(0, 1)", x.earn(0, 1), -100003);
        due("earn(0, 0)", x.earn(0, 0), -100001);
        due("earn(0, 1000)", x.earn(0, 1000), -100001);
        due("earn(5, 1)", x.earn(5, 1), -100001);
        for (int i = 0; i < 7; i++) x.type(0x2020202020202020L, 8);
        x.type(0x20202020L, 4);
        due("type(32, 1)", x.type(32, 1), -3);
        due("type(32, 0)", x.type(32, 0), -1);
        due("type(32, 9)", x.type(32, 9), -1);
        due("type(31, 1)", x.type(31, 1), -1);
        due("type(127, 1)", x.type(127, 1), -1);
    }

    private static void badAheadOfNotAndNone() {
        of("of several BAD ahead of all others: of NOT, NONE");
        FishSteps x = new FishSteps();
        due("rests(-2)", x.rests(-2), -1);
        due("rests(5)", x.rests(5), -1);
        due("order(-2)", x.order(-2), -1);
        due("order(6)", x.order(6), -1);
        x.sheet(0, 1, 2);
        due("which(0, 1, 0, 1)", x.which(0, 1, 0, 1), -2);
        due("which(0, 1, 0, 2)", x.which(0, 1, 0, 2), -1);
        due("which(0, 1, 0, -1)", x.which(0, 1, 0, -1), -1);
        lots(x, "0");
        x.buyer(0, 1);
        due("order(6) of one lot", x.order(6), -1);
        due("rests(5) of one buyer", x.rests(5), -1);
    }

    private static void badAheadOfTheMachines() {
        of("of several BAD ahead of all others: of NULL, CAST, INDEX, SIZE");
        FishSteps x = house("s60", "0");
        x.sheet(1, 1, 4);
        x.sheet(2, 2, 4);
        int[] no = {-1, 3, MIN, MAX};
        for (int lane : no) {
            due("which of nothing, lane " + lane, x.which(0, lane, 0, 0), -1);
            due("which behind the end, lane " + lane, x.which(1, lane, 9, 0), -1);
            due("film of nothing, lane " + lane, x.film(0, lane, 0), -1);
            due("film behind the end, lane " + lane, x.film(1, lane, 9), -1);
            due("item of nothing, lane " + lane, x.item(0, lane, 0, 0), -1);
            due("item behind the end, lane " + lane, x.item(1, lane, 9, 0), -1);
            due("sheet below 0, lane " + lane, x.sheet(0, lane, -1), -1);
        }
        for (int what : new int[] {-1, 2, MIN, MAX}) {
            due("which of nothing, what " + what, x.which(0, 1, 0, what), -1);
            due("which of another lane, what " + what, x.which(1, 0, 0, what), -1);
            due("which behind the end, what " + what, x.which(1, 1, 9, what), -1);
        }
        for (int s : new int[] {-1, 4, MIN, MAX}) {
            due("which of sheet " + s, x.which(s, 1, 9, 0), -1);
            due("film of sheet " + s, x.film(s, 1, 9), -1);
            due("item of sheet " + s, x.item(s, 1, 9, 0), -1);
            due("sheet below 0, sheet " + s, x.sheet(s, 0, -1), -1);
            due("drop of sheet " + s, x.drop(s), -1);
            due("copy from nothing to sheet " + s, x.copy(0, 0, s, 0, 1), -1);
            due("copy to nothing from sheet " + s, x.copy(s, 0, 0, 0, 1), -1);
            due("copy behind the end to sheet " + s, x.copy(1, 9, s, 0, 1), -1);
            due("copy of fewer than none from sheet " + s, x.copy(s, 0, 1, 0, -1), -1);
        }
    }

    // ---- then the first that a call names

    private static void notAheadOfNone() {
        of("then the first that a call names: NOT ahead of NONE");
        FishSteps x = new FishSteps();
        for (int b = 0; b < 5; b++) due("rests(" + b + ") without buyers", x.rests(b), -2);
        for (int i = 0; i < 6; i++) due("order(" + i + ") without lots", x.order(i), -2);
        x.sheet(0, 1, 2);
        due("which(0, 1, 0, 1) without lots", x.which(0, 1, 0, 1), -2);
    }

    private static void nullCastIndexInThisOrder() {
        of("NULL, CAST, INDEX, SIZE in this order");
        FishSteps x = house("s60", "0");
        x.sheet(1, 1, 4);
        x.sheet(2, 2, 4);
        due("which: NULL ahead of INDEX", x.which(0, 0, -1, 0), -11);
        due("which: CAST ahead of INDEX", x.which(1, 0, -1, 0), -12);
        due("film: NULL ahead of INDEX", x.film(0, 0, -1), -11);
        due("film: CAST ahead of INDEX", x.film(1, 0, -1), -12);
        due("item: NULL ahead of INDEX", x.item(0, 0, -1, 0), -11);
        due("item: CAST ahead of INDEX", x.item(1, 2, -1, 0), -12);
        due("copy: NULL ahead of INDEX", x.copy(0, -1, 1, 0, 1), -11);
        due("copy: NULL ahead of INDEX", x.copy(1, -1, 0, 0, 1), -11);
        due("copy: CAST ahead of INDEX", x.copy(1, -1, 2, 0, 1), -12);
        due("copy: CAST ahead of INDEX", x.copy(2, 0, 1, 0, -1), -12);
        due("copy: INDEX", x.copy(1, -1, 1, 0, 1), -13);
    }

    private static void theMachinesAheadOfNot() {
        of("the first that a call names: NULL; CAST; INDEX; NOT");
        FishSteps x = new FishSteps();
        x.sheet(1, 1, 4);
        due("which: NULL", x.which(0, 1, 0, 0), -11);
        due("which: CAST", x.which(1, 2, 0, 0), -12);
        due("which: INDEX", x.which(1, 1, 5, 0), -13);
        due("which: NOT", x.which(1, 1, 4, 0), -2);
        due("film: NULL", x.film(0, 1, 0), -11);
        due("film: CAST", x.film(1, 2, 0), -12);
        due("film: INDEX", x.film(1, 1, 5), -13);
        due("film: NOT", x.film(1, 1, 4), -2);
    }

    // ---- INDEX also where no item is taken

    private static void indexWhereNoItemIsTaken() {
        of("INDEX also where no item is taken, if i, j is below 0, or above how many there are");
        FishSteps x = new FishSteps();
        x.sheet(0, 1, 3);
        x.sheet(1, 1, 0);
        int[][] refused = {{-1, 0}, {4, 0}, {0, -1}, {0, 1}, {MIN, 0}, {MAX, 0}, {0, MIN}, {0, MAX}};
        for (int[] a : refused) due("copy(0, " + a[0] + ", 1, " + a[1] + ", 0)", x.copy(0, a[0], 1, a[1], 0), -13);
        due("copy(0, 3, 1, 0, 0)", x.copy(0, 3, 1, 0, 0), 0);
        due("copy(0, 0, 1, 0, 0)", x.copy(0, 0, 1, 0, 0), 0);
        due("copy(1, 0, 1, 0, 0)", x.copy(1, 0, 1, 0, 0), 0);
        for (int i : new int[] {-1, 4, MIN, MAX}) {
            due("which(0, 1, " + i + ", 0)", x.which(0, 1, i, 0), -13);
            due("film(0, 1, " + i + ")", x.film(0, 1, i), -13);
        }
        for (int i = 0; i <= 3; i++) {
            due("which(0, 1, " + i + ", 0)", x.which(0, 1, i, 0), -2);
            due("film(0, 1, " + i + ")", x.film(0, 1, i), -2);
        }
        due("film(1, 1, 0)", x.film(1, 1, 0), -2);
        due("film(1, 1, 1)", x.film(1, 1, 1), -13);
    }

    // ---- what is refused changes nothing

    /** Of everything something: five buyers who owe and are heard of, an image, sheets, a tape. */
    private static FishSteps ofEverything() {
        FishSteps x = house("s70 d3 f5 b1 c30", "012012");
        int[] sorts = {0, 1, 2, 3, 4};
        for (int b = 0; b < 5; b++) {
            come(x, sorts[b], b == 4 ? 10 : 200, 40 + 5 * b, 3 * b + 1);
            x.worth(b, b % 3, 60 - b);
        }
        x.image();
        x.morning();
        x.worth(1, 1, 66);
        for (int s = 0; s < 3; s++) {
            x.sheet(s, s, 12 + s);
            for (int i = 0; i < 12 + s; i++) x.item(s, s, i, -1);
            x.film(s, s, s);
        }
        type(x, "s44 d2 f1x");
        return x;
    }

    /** What all the calls tell of an object; the object is another one behind it. */
    private static List<Integer> tellings(FishSteps x) {
        List<Integer> all = new ArrayList<>();
        tellBooks(x, all);
        for (int s = 0; s < 3; s++) {
            all.add(x.which(s, s, s, 0));
            all.add(x.which(s, s, s, 1));
        }
        all.add(x.type(32, 1));
        all.add(x.rules());
        all.add(x.lots());
        for (int r = 0; r < 5; r++) all.add(x.rule(r, 1));
        all.add(x.morning());
        all.add(x.restore());
        tellBooks(x, all);
        for (int s = 0; s < 4; s++) all.add(x.drop(s));
        all.add(x.hush());
        return all;
    }

    private static void tellBooks(FishSteps x, List<Integer> all) {
        for (int what = 0; what < 5; what++) all.add(x.count(what));
        for (int b = 0; b < 5; b++) {
            for (int what = 0; what < 7; what++) all.add(x.told(b, what));
            for (int at = 0; at < 8; at++) all.add(x.span(b, at / 2, at % 2));
            all.add(x.gain(b));
        }
        for (int k = 0; k < 6; k++) {
            for (int what = 0; what < 5; what++) all.add(x.lot(k, what));
        }
        for (int law = 0; law < 3; law++) all.add(x.till(law));
    }

    private static void changesNothing(String call, int want, Deed refused) {
        FishSteps x = ofEverything();
        due(call, refused.on(x), want);
        List<Integer> told = tellings(x), due = tellings(ofEverything());
        int unlike = 0;
        for (int i = 0; i < due.size(); i++) unlike += told.get(i).equals(due.get(i)) ? 0 : 1;
        due("tellings other than without " + call, unlike, 0);
    }

    private static void whatIsRefusedChangesNothing() {
        of("What is refused changes nothing");
        changesNothing("rule(0, 100)", -1, x -> x.rule(0, 100));
        changesNothing("rule(5, 1)", -1, x -> x.rule(5, 1));
        changesNothing("buyer(0, 5) of a sixth", -3, x -> x.buyer(0, 5));
        changesNothing("worth(0, 0, 100)", -1, x -> x.worth(0, 0, 100));
        changesNothing("worth(0, 4, 9)", -1, x -> x.worth(0, 4, 9));
        changesNothing("margin(0, 41)", -1, x -> x.margin(0, 41));
        changesNothing("earn(0, 1000)", -100001, x -> x.earn(0, 1000));
        changesNothing("type(31, 1)", -1, x -> x.type(31, 1));
        changesNothing("type(0x411F, 2)", -1, x -> x.type(0x411F, 2));
        changesNothing("type(0x1F41, 2)", -1, x -> x.type(0x1F41, 2));
        changesNothing("which behind the end", -13, x -> x.which(0, 0, 1, 0));
        changesNothing("film behind the end", -13, x -> x.film(0, 0, 1));
        changesNothing("film of another lane", -12, x -> x.film(0, 1, 0));
        changesNothing("sheet(0, 1, 17)", -1, x -> x.sheet(0, 1, 17));
        changesNothing("sheet(0, 1, -1)", -14, x -> x.sheet(0, 1, -1));
        changesNothing("sheet(0, 3, 1)", -1, x -> x.sheet(0, 3, 1));
        changesNothing("drop(3)", -11, x -> x.drop(3));
        changesNothing("item(0, 0, 12, 9)", -13, x -> x.item(0, 0, 12, 9));
        changesNothing("item(0, 1, 0, 9)", -12, x -> x.item(0, 1, 0, 9));
        changesNothing("copy of unlike lanes", -12, x -> x.copy(1, 0, 0, 0, 1));
        changesNothing("copy behind the end", -13, x -> x.copy(0, 1, 0, 0, 12));
        changesNothing("copy to behind the end", -13, x -> x.copy(0, 0, 0, 1, 12));
        changesNothing("copy of fewer than none", -13, x -> x.copy(0, 4, 0, 2, -1));
    }

    private static void whatIsAskedChangesNothing() {
        of("if THE MORNING were held now: it is not held, and all stays");
        changesNothing("lot(0, 3)", ofEverything().lot(0, 3), x -> x.lot(0, 3));
        changesNothing("gain(2)", ofEverything().gain(2), x -> x.gain(2));
        for (int law = 0; law < 3; law++) {
            int by = law;
            changesNothing("till(" + law + ")", ofEverything().till(law), x -> x.till(by));
        }
        for (int b = 0; b < 5; b++) {
            int of = b;
            changesNothing("best(" + b + ")", ofEverything().best(b), x -> x.best(of));
        }
        changesNothing("rests(-1)", ofEverything().rests(-1), x -> x.rests(-1));
        changesNothing("rests(4)", ofEverything().rests(4), x -> x.rests(4));
        changesNothing("order(-1)", ofEverything().order(-1), x -> x.order(-1));
        changesNothing("order(5)", ofEverything().order(5), x -> x.order(5));
        changesNothing("ring(31)", ofEverything().ring(31), x -> x.ring(31));
        changesNothing("which(0, 0, 0, 0)", ofEverything().which(0, 0, 0, 0), x -> x.which(0, 0, 0, 0));
        changesNothing("film as it is", 12, x -> x.film(0, 0, 0));
        changesNothing("span(0, 0, 0)", ofEverything().span(0, 0, 0), x -> x.span(0, 0, 0));
        changesNothing("count(3)", 1, x -> x.count(3));
    }

    /** What one call leaves behind in the object may not colour the next one. */
    private static void noCallColoursTheNext() {
        of("if THE MORNING were held now: whatever was asked just before");
        Deed[] asked = {x -> x.gain(1), x -> x.till(0), x -> x.till(2), x -> x.best(1), x -> x.rests(-1), x -> x.rests(2),
            x -> x.order(-1), x -> x.order(0), x -> x.ring(31), x -> x.ring(6), x -> x.which(0, 0, 0, 0), x -> x.film(0, 0, 0),
            x -> x.lot(3, 2), x -> x.lot(1, 3)};
        for (int second = 0; second < asked.length; second++) {
            int alone = asked[second].on(ofEverything());
            for (int first = 0; first < asked.length; first++) {
                FishSteps x = ofEverything();
                asked[first].on(x);
                due("call " + second + " behind call " + first, asked[second].on(x), alone);
            }
        }
    }

    // ---- where a refusal is 100000 less

    private static void refusalsBelow() {
        of("Where a told thing may be below 0, refused ones are 100000 less");
        FishSteps x = new FishSteps();
        due("told(0, 0)", x.told(0, 0), -100001);
        due("earn(0, 1)", x.earn(0, 1), -100001);
        due("gain(0)", x.gain(0), -100001);
        due("ring(3)", x.ring(3), -100001);
        x.buyer(0, 999);
        for (int i = 0; i < 9; i++) x.earn(0, 999);
        due("earn(0, 999)", x.earn(0, 999), -100003);
        due("earn(0, 10)", x.earn(0, 10), -100003);
        due("till(3)", x.till(3), -1);
        due("morning()", x.morning(), -2);
        due("best(1)", x.best(1), -1);
        due("span(1, 0, 0)", x.span(1, 0, 0), -1);
    }

    private static void toldThingsBelowNought() {
        of("a told thing may be below 0");
        FishSteps x = house("s60 d4 b1 c60", "0");
        come(x, 0, 100, 48, 0);
        come(x, 1, 100, 52, 0);
        come(x, 4, 0, 20, 0);
        // both cough at 48; by the bell the deaf one alone coughs at 57
        due("gain(1)", x.gain(1), -5);
        // by the ring of both the deaf one, to whom it is worth most, has it for 48
        due("ring(3)", x.ring(3), 4 - -5);
        FishSteps worse = house("s60 f11", "0");
        come(worse, 0, 10, 49, 0);
        come(worse, 0, 100, 48, 8);
        due("ring(3), the one of it that may cough can't pay", worse.ring(3), -8);
        FishSteps y = house("s60 f40 c60", "0");
        come(y, 4, 10, 60, 0);
        y.morning();
        due("told(0, 6)", y.told(0, 6), -50);
        due("earn(0, 49)", y.earn(0, 49), -1);
    }

    // ---- the rest

    private static void setsAreBits() {
        of("Sets are bits");
        FishSteps x = house("s60 f10", "0");
        come(x, 0, 100, 50, 0);
        come(x, 0, 100, 20, 0);
        come(x, 0, 100, 40, 0);
        // 0 has it for 50 beside 2, who is silent in the ring of both; else 2 never matters to 0
        due("ring(5), 0 and 2", x.ring(5), 0);
        x.margin(0, 15);
        // without a ring 2 has it for 40 (0 coughs at 35 alone); by {0, 2} 0 has it for 35
        due("ring(5), 0 and 2", x.ring(5), 15);
        due("ring(3), 0 and 1", x.ring(3), 0);
        due("ring(6), 1 and 2", x.ring(6), 0);
        due("ring(7), all", x.ring(7), 15);
    }

    private static void divisionsAreCut() {
        of("Divisions are cut");
        int[] margins = {0, 1, 2, 3, 39, 40}, limits = {50, 50, 49, 49, 31, 30};
        for (int i = 0; i < margins.length; i++) {
            FishSteps x = house("s60", "0");
            come(x, 3, 100, 50, margins[i]);
            due("lot(0, 2) of a bold one's margin " + margins[i], x.lot(0, 2), limits[i]);
        }
    }

    private static void callsOfOneObject() {
        of("An object is used for at most 512 calls after it has been made");
        FishSteps x = new FishSteps();
        int calls = 0;
        while (calls < 505) {
            due("count(1)", x.count(1), 0);
            calls++;
        }
        due("type", x.type(0x30L, 1), 1);
        due("lots()", x.lots(), 1);
        due("buyer(0, 70)", x.buyer(0, 70), 0);
        due("worth(0, 0, 50)", x.worth(0, 0, 50), 0);
        due("rests(-1)", x.rests(-1), 1);
        due("order(-1)", x.order(-1), 50);
        due("morning(), the 512th", x.morning(), 50);
    }

    public static void main(String[] args) {
        badAheadOfFull();
        badAheadOfNotAndNone();
        badAheadOfTheMachines();
        notAheadOfNone();
        nullCastIndexInThisOrder();
        theMachinesAheadOfNot();
        indexWhereNoItemIsTaken();
        whatIsRefusedChangesNothing();
        whatIsAskedChangesNothing();
        noCallColoursTheNext();
        refusalsBelow();
        toldThingsBelowNought();
        setsAreBits();
        divisionsAreCut();
        callsOfOneObject();
        end();
    }
}
