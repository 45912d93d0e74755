import java.io.IOException;
import java.util.List;

/** The sentences of the promises that name an edge, each by itself: the last number that is taken, the first that is not. */
public final class EdgesTest {
    private static final int NONE = -1, UNKNOWN = -1000000001, OUTSIDE = -1000000002, NOT = -1000000003, FULL = -1000000004;
    private static final int LEAST = Integer.MIN_VALUE, GREATEST = Integer.MAX_VALUE;
    private static final int A = 240, B = 204, C = 170;
    private static Sentences doc;

    private static YesNoClones based(int set, int... codes) {
        YesNoClones x = Objects.with(codes);
        x.base(set);
        return x;
    }

    private static int tell(YesNoClones x, String text) {
        return Objects.type(x, text).tell();
    }

    private static void newObject() {
        doc.says(1, "Nothing is on THE SHELF.");
        YesNoClones x = new YesNoClones();
        doc.due("told(0)", x.told(0), 0);
        doc.due("function(0, 0)", x.function(0, 0), UNKNOWN);
        doc.due("take(0)", x.take(0), UNKNOWN);
        doc.due("base(1)", x.base(1), UNKNOWN);
        doc.due("base(0)", x.base(0), 4095);
        YesNoClones other = Objects.with(1, 2);
        doc.due("told(0) of another one", other.told(0), 2);
        doc.due("told(0) of the first", x.told(0), 0);
    }

    private static void feed() {
        doc.says(2, "A letter (0 .. 255) comes behind THE TEXT: how many it has. OUTSIDE, FULL (60).");
        YesNoClones x = new YesNoClones();
        doc.due("feed(-1)", x.feed(-1), OUTSIDE);
        doc.due("feed(0)", x.feed(0), 1);
        doc.due("feed(256)", x.feed(256), OUTSIDE);
        doc.due("feed(255)", x.feed(255), 2);
        for (int n = 3; n <= 60; n++) doc.due("feed, the " + n + "th", x.feed('a'), n);
        doc.due("feed of 60", x.feed('a'), FULL);
        doc.due("feed(0) of 60", x.feed(0), FULL);
        doc.due("told(1)", x.told(1), 60);
        doc.due("tell()", x.tell(), -11);
        doc.due("feed behind tell()", x.feed('a'), 1);
        doc.due("tell()", x.tell(), 0);
    }

    private static void tellText() {
        doc.says(3, "THE TEXT (it is empty then, with a FAULT, too) as a FORMULA comes onto THE SHELF: its number; -10 less the number of its FAULT.");
        YesNoClones x = new YesNoClones();
        String[] texts = {"b", "x", "B", "bb", "&b"};
        int[] due = {0, -11, -12, -13, -14};
        for (int i = 0; i < texts.length; i++) {
            doc.due("tell of " + texts[i], tell(x, texts[i]), due[i]);
            doc.due("told(1)", x.told(1), 0);
            doc.due("told(0)", x.told(0), 1);
            doc.due("tell of nothing then", x.tell(), -14);
        }
        for (int n = 1; n < 6; n++) doc.due("tell of b", tell(x, "b"), n);
    }

    private static void tellFull() {
        doc.says(3, "FULL (6; THE TEXT stays; ahead of FAULTS).");
        String[] texts = {"", "b", "x", "Gabc", "bb", "&b", "0", "Fabc"};
        int[] due = {-14, 5, -11, -11, -13, -14, 5, -12};
        for (int i = 0; i < texts.length; i++) {
            YesNoClones x = Objects.with(1, 2, 3, 4, 5, 6);
            doc.due("tell of '" + texts[i] + "' of six", tell(x, texts[i]), FULL);
            doc.due("told(1)", x.told(1), texts[i].length());
            doc.due("told(12)", x.told(12), 6);
            doc.due("fault()", x.fault(), NONE);
            doc.due("tell() again", x.tell(), FULL);
            x.take(5);
            doc.due("tell of '" + texts[i] + "' of five", x.tell(), due[i]);
            doc.due("told(1)", x.told(1), 0);
        }
        YesNoClones x = Objects.with(1, 2, 3, 4, 5);
        doc.due("the sixth", tell(x, "Eabc"), 5);
        doc.due("its code", x.function(5, 0), 5);
    }

    private static void fault() {
        doc.says(4, "The place (from 0 on) of the letter that has the FAULT of the latest tell() that was not FULL; NONE.");
        YesNoClones x = new YesNoClones();
        doc.due("fault() at first", x.fault(), NONE);
        tell(x, "&a&");
        doc.due("fault() at the end", x.fault(), 3);
        tell(x, "x");
        doc.due("fault() at the front", x.fault(), 0);
        x.feed('&');
        doc.due("fault() while a text is typed", x.fault(), 0);
        x.feed('a');
        x.feed('b');
        x.tell();
        doc.due("fault() of none", x.fault(), NONE);
        tell(x, "ab");
        x.keep(0);
        x.base(1);
        x.undo(1);
        x.goBack(0);
        x.drift(6);
        tell(x, "&&&&x");
        doc.due("fault(), as the latest one was FULL", x.fault(), 1);
        x.take(0);
        doc.due("tell()", x.tell(), -11);
        doc.due("fault()", x.fault(), 4);
        doc.due("told(12)", x.told(12), 6);
    }

    private static void told() {
        doc.says(5, "0 FUNCTIONS on THE SHELF, 1 letters of THE TEXT, 2 THE BASE, 3 COMMON, 4 the PLACE whose SET that is, 5 how many CODES are "
            + "MADE, 6 the greatest COST, 7 the least CODE that has it, 8 SPARE, 9 PLACES, 10 entries of THE BOOK, 11 WRONG, 12 how many can "
            + "be undone. OUTSIDE.");
        int[] empty = {0, 0, 0, 4095, 45, 3, 0, 170, 0, 46, 0, NONE, 0};
        YesNoClones x = new YesNoClones();
        for (int what = 0; what <= 12; what++) doc.due("told(" + what + ") of a new one", x.told(what), empty[what]);
        doc.due("told(13)", x.told(13), OUTSIDE);
        doc.due("told(-1)", x.told(-1), OUTSIDE);
        YesNoClones y = Objects.with(63, 63, 63, 63, 63, 63);
        for (int i = 0; i < 20; i++) y.base(63);
        for (int i = 0; i < 60; i++) y.feed('a');
        for (int i = 0; i < 20; i++) y.write(150, i < 19 ? 14 : 13);
        int[] crowded = {6, 60, 63, 0, 0, 256, 14, 150, 63, 46, 20, 19, 16};
        for (int what = 0; what <= 12; what++) doc.due("told(" + what + ") of a full one", y.told(what), crowded[what]);
        doc.due("told(13)", y.told(13), OUTSIDE);
        YesNoClones one = based(1, 0);
        doc.due("told(7), the least code of several or one", one.told(7), 0);
        doc.due("told(6)", one.told(6), 1);
        YesNoClones two = based(3, 255, 0);
        doc.due("told(7), the least of two", two.told(7), 0);
        doc.due("told(5)", two.told(5), 5);
        YesNoClones none = based(1, A);
        doc.due("told(7), a base that makes nothing new", none.told(7), C);
        doc.due("told(4)", none.told(4), 45);
        doc.due("told(8)", none.told(8), 1);
    }

    private static void function() {
        doc.says(6, "what = 0 CODE, 1 variables on which it HANGS (a SET: a 0, b 1, c 2), 2 ARITY, 3 SUM, 4 TRAITS (a SET), 5 CODE TURNED OVER, "
            + "6 COST. UNKNOWN, OUTSIDE.");
        int[][] due = {{0, 0, 0, 0, 1013, 255, NONE}, {255, 0, 0, 1, 3318, 0, NONE}, {C, 4, 3, 2, 4095, C, 0}, {1, 7, 3, 255, 0, 127, NONE},
            {128, 7, 3, 128, 807, 254, NONE}, {254, 7, 3, 254, 3143, 128, NONE}};
        YesNoClones x = Objects.with(0, 255, C, 1, 128, 254);
        for (int f = 0; f < 6; f++)
            for (int what = 0; what <= 6; what++) doc.due("function(" + f + ", " + what + ")", x.function(f, what), due[f][what]);
        doc.due("function(5, 7)", x.function(5, 7), OUTSIDE);
        doc.due("function(5, -1)", x.function(5, -1), OUTSIDE);
        doc.due("function(6, 0)", x.function(6, 0), UNKNOWN);
        doc.due("function(-1, 0)", x.function(-1, 0), UNKNOWN);
        x.take(5);
        doc.due("function(5, 0), taken", x.function(5, 0), UNKNOWN);
        x.base(1);
        doc.due("function(0, 6)", x.function(0, 6), 1);
        doc.due("function(1, 6)", x.function(1, 6), NONE);
        doc.due("function(2, 6)", x.function(2, 6), 0);
    }

    private static void fails() {
        doc.says(7, "FAILS; NONE: it HAS the TRAIT. UNKNOWN.");
        YesNoClones x = Objects.with(127, A, 1);
        int[] due = {0, 7, 7, 1, 7, 7, 7, 1, 0, 0, 63, 511};
        for (int trait = 0; trait < 12; trait++) {
            doc.due("fails(0, " + trait + ")", x.fails(0, trait), due[trait]);
            doc.due("fails(1, " + trait + ")", x.fails(1, trait), NONE);
        }
        doc.due("fails(2, 11)", x.fails(2, 11), 78);
        doc.due("fails(2, 12)", x.fails(2, 12), UNKNOWN);
        doc.due("fails(2, -1)", x.fails(2, -1), UNKNOWN);
        doc.due("fails(3, 11)", x.fails(3, 11), UNKNOWN);
        doc.due("fails(3, 12)", x.fails(3, 12), UNKNOWN);
    }

    private static void cost() {
        doc.says(8, "Of a CODE: what = 0 COST, 1 TOP, 2 to 4 the first, second, third PART, 5 how many letters it has SPELLED; NONE: it is not "
            + "MADE, has none such. OUTSIDE.");
        YesNoClones x = based(31, 255, 15, 192, 51, 85);
        int[][] due = {{A, 0, NONE, NONE, NONE, NONE, 1}, {C, 0, NONE, NONE, NONE, NONE, 1}, {255, 1, 0, NONE, NONE, NONE, 1},
            {15, 1, 1, A, NONE, NONE, 2}, {192, 1, 2, B, A, NONE, 3}, {0, 2, 1, 255, NONE, NONE, 2}};
        for (int[] row : due)
            for (int what = 0; what <= 5; what++) doc.due("cost(" + row[0] + ", " + what + ")", x.cost(row[0], what), row[what + 1]);
        YesNoClones none = new YesNoClones();
        for (int what = 0; what <= 5; what++) {
            doc.due("cost(0, " + what + ") of no base", none.cost(0, what), NONE);
            doc.due("cost(255, " + what + ") of no base", none.cost(255, what), NONE);
            doc.due("cost(256, " + what + ")", none.cost(256, what), OUTSIDE);
            doc.due("cost(-1, " + what + ")", none.cost(-1, what), OUTSIDE);
        }
        doc.due("cost(255, 6)", none.cost(255, 6), OUTSIDE);
        doc.due("cost(255, -1)", none.cost(255, -1), OUTSIDE);
        YesNoClones three = based(1, 232);
        doc.due("the third part", three.cost(232, 4), A);
        doc.due("letters", three.cost(232, 5), 4);
    }

    private static void spell() {
        doc.says(9, "Letter k of a CODE SPELLED; NONE: it is not MADE, has not so many. OUTSIDE (k below 0).");
        YesNoClones x = based(3, 63, 255);
        doc.due("spell(240, 0)", x.spell(A, 0), 'a');
        doc.due("spell(204, 0)", x.spell(B, 0), 'b');
        doc.due("spell(170, 0)", x.spell(C, 0), 'c');
        doc.due("spell(170, 1)", x.spell(C, 1), NONE);
        doc.due("spell(170, -1)", x.spell(C, -1), OUTSIDE);
        doc.due("spell(255, 0)", x.spell(255, 0), 'B');
        doc.due("spell(255, 1)", x.spell(255, 1), NONE);
        doc.due("spell(63, 0)", x.spell(63, 0), 'A');
        doc.due("spell(63, 2)", x.spell(63, 2), 'a');
        doc.due("spell(63, 3)", x.spell(63, 3), NONE);
        for (int k : new int[] {100, 256, 65536, GREATEST}) doc.due("spell(63, " + k + ")", x.spell(63, k), NONE);
        x.base(2);
        doc.due("spell(63, 0), not made", x.spell(63, 0), NONE);
        doc.due("spell(63, -1), not made", x.spell(63, -1), OUTSIDE);
        doc.due("spell(63, least)", x.spell(63, LEAST), OUTSIDE);
        doc.due("spell(256, 0)", x.spell(256, 0), OUTSIDE);
        doc.due("spell(-1, 0)", x.spell(-1, 0), OUTSIDE);
        for (int code = 0; code < 256; code += 15) longest(code);
    }

    private static void longest(int code) {
        YesNoClones x = based(3, 15, 136);
        Plain.Made made = new Plain.Made(3, List.of(15, 136));
        String text = made.spelled(code);
        for (int k = 0; k < text.length(); k++) doc.due("spell(" + code + ", " + k + ")", x.spell(code, k), text.charAt(k));
        doc.due("spell(" + code + "), one more", x.spell(code, text.length()), NONE);
        doc.due("cost(" + code + ", 5)", x.cost(code, 5), text.length());
    }

    private static void costing() {
        doc.says(10, "How many CODES COST n. OUTSIDE: below 0.");
        YesNoClones x = new YesNoClones();
        doc.due("costing(0)", x.costing(0), 3);
        doc.due("costing(1)", x.costing(1), 0);
        doc.due("costing(-1)", x.costing(-1), OUTSIDE);
        doc.due("costing(least)", x.costing(LEAST), OUTSIDE);
        YesNoClones y = based(3, 15, 136);
        int all = 0;
        for (int n = 0; n <= 20; n++) all += y.costing(n);
        doc.due("all of them", all, 256);
        doc.due("the dearest are some", y.costing(20) > 0 ? 1 : 0, 1);
        for (int n : new int[] {21, 22, 61, 9998, 9999, 10000, 10001, 65536, GREATEST}) doc.due("costing(" + n + ")", y.costing(n), 0);
        YesNoClones last = based(1, 255);
        doc.due("costing(1)", last.costing(1), 1);
        doc.due("costing(2)", last.costing(2), 0);
    }

    private static void place() {
        doc.says(11, "Of a PLACE: what = 0 its SET, 1 how many FUNCTIONS are IN it, 2 how many are JUST ABOVE, 3 JUST BELOW, 4 RANK. UNKNOWN, OUTSIDE.");
        YesNoClones x = new YesNoClones();
        int[] first = {0, 256, 0, 5, 1};
        for (int what = 0; what <= 4; what++) {
            doc.due("place(0, " + what + ")", x.place(0, what), first[what]);
            doc.due("place(46, " + what + ")", x.place(46, what), UNKNOWN);
            doc.due("place(-1, " + what + ")", x.place(-1, what), UNKNOWN);
        }
        doc.due("place(45, 0)", x.place(45, 0), 4095);
        doc.due("place(45, 1)", x.place(45, 1), 3);
        doc.due("place(45, 2)", x.place(45, 2), Plain.next(45, true).size());
        doc.due("place(45, 3)", x.place(45, 3), 0);
        doc.due("place(45, 4)", x.place(45, 4), 0);
        doc.due("place(15, 4), the greatest rank", x.place(15, 4), 3);
        doc.due("place(45, 5)", x.place(45, 5), OUTSIDE);
        doc.due("place(45, -1)", x.place(45, -1), OUTSIDE);
        x.drift(6);
        x.base(63);
        doc.due("place(45, 4), whatever the base", x.place(45, 4), 0);
    }

    private static void above() {
        doc.says(12, "The i-th PLACE JUST ABOVE, by their numbers, rising; NONE: not so many. UNKNOWN, OUTSIDE (i below 0).");
        YesNoClones x = new YesNoClones();
        int most = x.place(45, 2);
        int before = NONE;
        for (int i = 0; i < most; i++) {
            int k = x.above(45, i);
            doc.due("rising at " + i, k > before && k < 45 ? 1 : 0, 1);
            before = k;
        }
        doc.due("above(45), one more", x.above(45, most), NONE);
        doc.due("above(45, greatest)", x.above(45, GREATEST), NONE);
        doc.due("above(0, 0)", x.above(0, 0), NONE);
        doc.due("above(0, -1)", x.above(0, -1), OUTSIDE);
        doc.due("above(45, least)", x.above(45, LEAST), OUTSIDE);
        doc.due("above(46, 0)", x.above(46, 0), UNKNOWN);
        doc.due("above(-1, -1)", x.above(-1, -1), UNKNOWN);
    }

    private static void below() {
        doc.says(13, "The i-th PLACE JUST BELOW, by their numbers, rising; NONE: not so many. UNKNOWN, OUTSIDE (i below 0).");
        YesNoClones x = new YesNoClones();
        int before = 0;
        for (int i = 0; i < 5; i++) {
            int k = x.below(0, i);
            doc.due("rising at " + i, k > before && k < 46 ? 1 : 0, 1);
            before = k;
        }
        doc.due("below(0, 5)", x.below(0, 5), NONE);
        doc.due("below(0, greatest)", x.below(0, GREATEST), NONE);
        doc.due("below(45, 0)", x.below(45, 0), NONE);
        doc.due("below(45, -1)", x.below(45, -1), OUTSIDE);
        doc.due("below(0, least)", x.below(0, LEAST), OUTSIDE);
        doc.due("below(46, 0)", x.below(46, 0), UNKNOWN);
        doc.due("below(-1, -1)", x.below(-1, -1), UNKNOWN);
    }

    private static void meetAndJoin() {
        doc.says(14, "The number of the PLACE whose SET is the MEET. UNKNOWN.");
        YesNoClones x = new YesNoClones();
        doc.due("meet(0, 0)", x.meet(0, 0), 0);
        doc.due("meet(45, 45)", x.meet(45, 45), 45);
        doc.due("meet(0, 45)", x.meet(0, 45), 45);
        doc.due("meet(1, 2)", x.meet(1, 2), 3);
        doc.due("meet(46, 0)", x.meet(46, 0), UNKNOWN);
        doc.due("meet(0, 46)", x.meet(0, 46), UNKNOWN);
        doc.due("meet(-1, 45)", x.meet(-1, 45), UNKNOWN);
        doc.due("meet(45, -1)", x.meet(45, -1), UNKNOWN);
        // what is monotone and its own turned over has more traits than these two: 1295 is more than 4 | 8
        doc.due("meet(4, 8)", x.meet(4, 8), 37);
        doc.due("its set", x.place(37, 0), 1295);
        doc.says(15, "The number of the PLACE whose SET is the JOIN. UNKNOWN.");
        doc.due("join(0, 0)", x.join(0, 0), 0);
        doc.due("join(45, 45)", x.join(45, 45), 45);
        doc.due("join(0, 45)", x.join(0, 45), 0);
        doc.due("join(1, 2)", x.join(1, 2), 0);
        doc.due("join(46, 0)", x.join(46, 0), UNKNOWN);
        doc.due("join(0, 46)", x.join(0, 46), UNKNOWN);
        doc.due("join(-1, 45)", x.join(-1, 45), UNKNOWN);
        doc.due("join(45, -1)", x.join(45, -1), UNKNOWN);
    }

    private static void relation() {
        doc.says(16, "Of a RELATION of k: what = 0 how many FUNCTIONS KEEP it, 1 the number of its PLACE. OUTSIDE (rows: bits of no ROW).");
        YesNoClones x = new YesNoClones();
        int[][] due = {{1, 0, 256, 0}, {1, 1, 128, 1}, {1, 2, 128, 2}, {1, 3, 256, 0}, {2, 0, 256, 0}, {2, 15, 256, 0}, {2, 8, 128, 2},
            {3, 0, 256, 0}, {3, 255, 256, 0}, {3, 128, 128, 2}, {3, 1, 128, 1}};
        for (int[] row : due)
            for (int what = 0; what <= 1; what++)
                doc.due("relation(" + row[0] + ", " + row[1] + ", " + what + ")", x.relation(row[0], row[1], what), row[2 + what]);
        int[][] outside = {{0, 0, 0}, {0, 1, 0}, {4, 0, 0}, {4, 255, 1}, {1, 4, 0}, {1, -1, 0}, {2, 16, 0}, {2, 17, 1}, {2, -16, 0}, {3, 256, 0},
            {3, 257, 1}, {3, -256, 0}, {1, 1, 2}, {1, 1, -1}, {32, 1, 0}, {33, 1, 0}, {LEAST, 1, 0}, {GREATEST, 1, 0}, {1, LEAST, 0},
            {3, GREATEST, 0}, {-1, 0, 0}, {-31, 1, 0}};
        for (int[] row : outside)
            doc.due("relation(" + row[0] + ", " + row[1] + ", " + row[2] + ")", x.relation(row[0], row[1], row[2]), OUTSIDE);
    }

    private static void keeps() {
        doc.says(17, "Whether a FUNCTION KEEPS a RELATION of k: 1, 0. UNKNOWN: the FUNCTION; OUTSIDE: k, or rows: bits of no ROW.");
        YesNoClones x = Objects.with(0, 255, 15);
        int[][] due = {{0, 1, 0, 1}, {0, 1, 1, 1}, {0, 1, 2, 0}, {0, 1, 3, 1}, {1, 1, 1, 0}, {1, 1, 2, 1}, {2, 1, 1, 0}, {2, 1, 2, 0}, {2, 1, 3, 1},
            {2, 2, 6, 1}, {2, 2, 9, 1}, {2, 2, 11, 0}, {0, 3, 1, 1}, {0, 3, 128, 0}, {1, 3, 128, 1}, {2, 3, 255, 1}, {2, 3, 0, 1}};
        for (int[] row : due) doc.due("keeps(" + row[0] + ", " + row[1] + ", " + row[2] + ")", x.keeps(row[0], row[1], row[2]), row[3]);
        doc.due("keeps(3, 1, 1)", x.keeps(3, 1, 1), UNKNOWN);
        doc.due("keeps(-1, 1, 1)", x.keeps(-1, 1, 1), UNKNOWN);
        doc.due("keeps(3, 4, 1)", x.keeps(3, 4, 1), UNKNOWN);
        doc.due("keeps(3, 1, 4)", x.keeps(3, 1, 4), UNKNOWN);
        int[][] outside = {{0, 0}, {4, 0}, {-1, 0}, {32, 0}, {33, 0}, {1, 4}, {1, -1}, {2, 16}, {2, -1}, {3, 256}, {3, -1}, {3, GREATEST}, {3, LEAST}};
        for (int[] row : outside) doc.due("keeps(2, " + row[0] + ", " + row[1] + ")", x.keeps(2, row[0], row[1]), OUTSIDE);
    }

    private static void put() {
        doc.says(18, "FUNCTION f PUT ON x, y, z (of THE SHELF, perhaps the same) comes onto it: its number. UNKNOWN, FULL.");
        YesNoClones x = Objects.with(15);
        for (int n = 1; n < 6; n++) {
            doc.due("put onto " + n, x.put(n - 1, n - 1, n - 1, n - 1), n);
            doc.due("put(" + n + " and one more)", x.put(n + 1, 0, 0, 0), UNKNOWN);
            doc.due("told(0)", x.told(0), n + 1);
        }
        doc.due("put of six", x.put(0, 0, 0, 0), FULL);
        doc.due("put of six, and one there is not", x.put(0, 0, 6, 0), UNKNOWN);
        int[] codes = {15, 240, 240, 240, 240, 240};
        for (int f = 0; f < 6; f++) doc.due("function(" + f + ", 0)", x.function(f, 0), codes[f]);
        doc.due("told(12)", x.told(12), 6);
        doc.due("put of a new object", new YesNoClones().put(0, 0, 0, 0), UNKNOWN);
    }

    private static void turn() {
        doc.says(19, "A FUNCTION is TURNED OVER: its CODE. UNKNOWN.");
        YesNoClones x = Objects.with(0, 255, C, 1, 2, 128);
        int[] due = {255, 0, C, 127, 191, 254};
        for (int f = 0; f < 6; f++) {
            doc.due("turn(" + f + ")", x.turn(f), due[f]);
            doc.due("function(" + f + ", 0)", x.function(f, 0), due[f]);
        }
        doc.due("turn(6)", x.turn(6), UNKNOWN);
        doc.due("turn(-1)", x.turn(-1), UNKNOWN);
        doc.due("turn(5) back", x.turn(5), 128);
        doc.due("told(0)", x.told(0), 6);
        doc.due("turn(0) of a new object", new YesNoClones().turn(0), UNKNOWN);
    }

    private static void take() {
        doc.says(20, "A FUNCTION goes: how many are left. UNKNOWN.");
        YesNoClones x = based(63, 1, 2, 3, 4, 5, 6);
        for (int left = 5; left >= 0; left--) {
            doc.due("take of one there is not", x.take(left + 1), UNKNOWN);
            doc.due("take of the last", x.take(left), left);
            doc.due("told(0)", x.told(0), left);
            doc.due("told(2)", x.told(2), (1 << left) - 1);
        }
        doc.due("take(0) of none", x.take(0), UNKNOWN);
        doc.due("take(-1) of none", x.take(-1), UNKNOWN);
        doc.due("told(5)", x.told(5), 3);
    }

    private static void base() {
        doc.says(21, "THE BASE: COMMON. UNKNOWN.");
        YesNoClones x = new YesNoClones();
        for (int n = 0; n <= 6; n++) {
            doc.due("base of all of " + n, x.base((1 << n) - 1), 4095);
            doc.due("base of one more than " + n, x.base(1 << n), UNKNOWN);
            doc.due("base of all and one more than " + n, x.base((2 << n) - 1), UNKNOWN);
            doc.due("base(-1)", x.base(-1), UNKNOWN);
            doc.due("base(least)", x.base(LEAST), UNKNOWN);
            doc.due("base(greatest)", x.base(GREATEST), UNKNOWN);
            doc.due("base of none", x.base(0), 4095);
            if (n < 6) tell(x, "a");
        }
        YesNoClones y = Objects.with(0, 255, 128, 1);
        int[] due = {4095, 1013, 3318, 1013 & 3318, 807, 1013 & 807, 3318 & 807, 1013 & 3318 & 807, 0};
        for (int set = 0; set < due.length; set++) doc.due("base(" + set + ")", y.base(set), due[set]);
    }

    private static void drift() {
        doc.says(22, "n times BY DRAWS (1 .. 6): how many are on THE SHELF. OUTSIDE.");
        YesNoClones x = new YesNoClones();
        doc.due("drift(0)", x.drift(0), OUTSIDE);
        doc.due("drift(7)", x.drift(7), OUTSIDE);
        doc.due("drift(1)", x.drift(1), 1);
        doc.due("drift(6)", x.drift(6), 6);
        doc.due("drift(6) of six", x.drift(6), 6);
        doc.due("drift(1) of six", x.drift(1), 6);
        doc.due("drift(0) of six", x.drift(0), OUTSIDE);
        doc.due("drift(7) of six", x.drift(7), OUTSIDE);
        doc.due("told(12)", x.told(12), 6);
        YesNoClones y = new YesNoClones();
        doc.due("drift(6) of none", y.drift(6), 6);
        long seed = 0;
        for (int f = 0; f < 6; f++) {
            seed = (seed * 1103515245 + 12345) % 2147483648L;
            doc.due("function(" + f + ", 0)", y.function(f, 0), (int) (seed / 65536 % 256));
        }
    }

    private static void undo() {
        doc.says(23, "The n latest (1 .. 16) are undone: how many are on THE SHELF. OUTSIDE, NOT: not so many.");
        YesNoClones x = new YesNoClones();
        doc.due("undo(0) of none", x.undo(0), OUTSIDE);
        doc.due("undo(17) of none", x.undo(17), OUTSIDE);
        doc.due("undo(16) of none", x.undo(16), NOT);
        doc.due("undo(1) of none", x.undo(1), NOT);
        x.drift(6);
        doc.due("undo(7) of six", x.undo(7), NOT);
        doc.due("undo(6) of six", x.undo(6), 0);
        x.drift(6);
        for (int n = 5; n >= 0; n--) doc.due("undo(1)", x.undo(1), n);
        doc.due("undo(1) of none", x.undo(1), NOT);
        for (int i = 0; i < 15; i++) x.base(0);
        doc.due("undo(16) of 15", x.undo(16), NOT);
        tell(x, "a");
        doc.due("undo(17) of 16", x.undo(17), OUTSIDE);
        doc.due("undo(16) of 16", x.undo(16), 0);
        doc.due("told(12)", x.told(12), 0);
        for (int i = 0; i < 33; i++) {
            tell(x, "a");
            x.take(0);
        }
        doc.due("undo(16) of 66", x.undo(16), 0);
        doc.due("undo(1)", x.undo(1), NOT);
    }

    private static void write() {
        doc.says(24, "An entry behind THE BOOK (a CODE COSTS v, any): how many. OUTSIDE, FULL (20).");
        YesNoClones x = new YesNoClones();
        doc.due("write(-1, 0)", x.write(-1, 0), OUTSIDE);
        doc.due("write(256, 0)", x.write(256, 0), OUTSIDE);
        doc.due("write(0, -1)", x.write(0, NONE), 1);
        doc.due("write(255, -1)", x.write(255, NONE), 2);
        doc.due("told(11)", x.told(11), NONE);
        int[] any = {LEAST, GREATEST, UNKNOWN, OUTSIDE, NOT, FULL, -2, 0, 10000, 65536};
        for (int i = 0; i < any.length; i++) {
            doc.due("write(1, " + any[i] + ")", x.write(1, any[i]), i + 3);
            doc.due("told(11)", x.told(11), 2);
        }
        for (int n = 13; n <= 20; n++) doc.due("write, the " + n + "th", x.write(1, 1), n);
        doc.due("write of 20", x.write(1, 1), FULL);
        doc.due("write(256, 1) of 20", x.write(256, 1), OUTSIDE);
        doc.due("told(10)", x.told(10), 20);
    }

    private static void tear() {
        doc.says(25, "No BOOK: how much it had.");
        YesNoClones x = new YesNoClones();
        doc.due("tear() of none", x.tear(), 0);
        for (int n = 1; n <= 20; n++) x.write(1, 1);
        doc.due("write of 20", x.write(1, 1), FULL);
        doc.due("tear() of 20", x.tear(), 20);
        doc.due("told(10)", x.told(10), 0);
        doc.due("told(11)", x.told(11), NONE);
        doc.due("tear() again", x.tear(), 0);
        for (int n = 1; n <= 20; n++) doc.due("write", x.write(A, 0), n);
        doc.due("told(11)", x.told(11), NONE);
        doc.due("told(12)", x.told(12), 0);
    }

    private static void seed() {
        doc.says(26, "THE SEED becomes v (0 .. 2147483647): what it was. OUTSIDE.");
        YesNoClones x = new YesNoClones();
        doc.due("seed(-1)", x.seed(-1), OUTSIDE);
        doc.due("seed(least)", x.seed(LEAST), OUTSIDE);
        doc.due("seed(2147483647)", x.seed(2147483647), 0);
        doc.due("seed(-1)", x.seed(-1), OUTSIDE);
        doc.due("seed(0)", x.seed(0), 2147483647);
        doc.due("seed(1)", x.seed(1), 0);
        x.drift(1);
        doc.due("seed(2)", x.seed(2), 1103515245 + 12345);
    }

    private static void keep() {
        doc.says(27, "IMAGE i becomes what is so (nothing can be undone then): 1. UNKNOWN.");
        YesNoClones x = Objects.with(1, 2);
        doc.due("keep(2)", x.keep(2), UNKNOWN);
        doc.due("keep(-1)", x.keep(-1), UNKNOWN);
        doc.due("told(12)", x.told(12), 2);
        doc.due("keep(0)", x.keep(0), 1);
        doc.due("told(12)", x.told(12), 0);
        doc.due("undo(1)", x.undo(1), NOT);
        doc.due("goBack(1)", x.goBack(1), NOT);
        x.take(0);
        doc.due("keep(1)", x.keep(1), 1);
        doc.due("told(12)", x.told(12), 0);
        x.take(0);
        doc.due("keep(1), once more", x.keep(1), 1);
        doc.due("goBack(0)", x.goBack(0), 1);
        doc.due("told(0)", x.told(0), 2);
        doc.due("goBack(1)", x.goBack(1), 1);
        doc.due("told(0)", x.told(0), 0);
        YesNoClones none = new YesNoClones();
        doc.due("keep(0) of nothing", none.keep(0), 1);
        none.drift(6);
        doc.due("goBack(0)", none.goBack(0), 1);
        doc.due("told(0)", none.told(0), 0);
    }

    private static void goBack() {
        doc.says(28, "What is so becomes IMAGE i (nothing can be undone then): 1. UNKNOWN, NOT: it was not kept.");
        YesNoClones x = Objects.with(1);
        doc.due("goBack(0)", x.goBack(0), NOT);
        doc.due("goBack(1)", x.goBack(1), NOT);
        doc.due("goBack(2)", x.goBack(2), UNKNOWN);
        doc.due("goBack(-1)", x.goBack(-1), UNKNOWN);
        doc.due("told(12)", x.told(12), 1);
        x.keep(1);
        x.drift(5);
        doc.due("goBack(0)", x.goBack(0), NOT);
        doc.due("told(12)", x.told(12), 5);
        doc.due("goBack(1)", x.goBack(1), 1);
        doc.due("told(0)", x.told(0), 1);
        doc.due("told(12)", x.told(12), 0);
        doc.due("undo(1)", x.undo(1), NOT);
        doc.due("goBack(1) again", x.goBack(1), 1);
        x.take(0);
        doc.due("undo(1)", x.undo(1), 1);
        doc.due("told(12)", x.told(12), 0);
    }

    public static void main(String[] args) throws IOException {
        doc = new Sentences("EdgesTest", args);
        newObject();
        feed();
        tellText();
        tellFull();
        fault();
        told();
        function();
        fails();
        cost();
        spell();
        costing();
        place();
        above();
        below();
        meetAndJoin();
        relation();
        keeps();
        put();
        turn();
        take();
        base();
        drift();
        undo();
        write();
        tear();
        seed();
        keep();
        goBack();
        doc.end();
    }
}
