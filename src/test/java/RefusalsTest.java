import java.io.IOException;
import java.util.ArrayList;
import java.util.List;
import java.util.TreeSet;

/**
 * All refusals, at each bound and beyond it, by a new object, by one in use and by a full one; and that what is refused
 * changes nothing: a twin that was not asked must be the same in all that can be seen of it.
 */
public final class RefusalsTest {
    private static final int NONE = -1, UNKNOWN = -1000000001, OUTSIDE = -1000000002, NOT = -1000000003, FULL = -1000000004;
    private static final int LEAST = Integer.MIN_VALUE, GREATEST = Integer.MAX_VALUE;
    private static final int FRESH = 0, USED = 1, CROWDED = 2;
    private static Sentences doc;

    private interface Call {
        int on(YesNoClones x);
    }

    private interface CallOf {
        int on(YesNoClones x, int n);
    }

    // ---- objects

    private static YesNoClones made(int state) {
        return state == FRESH ? new YesNoClones() : state == USED ? used() : crowded();
    }

    private static int functionsOf(int state) {
        return state == FRESH ? 0 : state == USED ? 3 : 6;
    }

    /** Three functions, three deeds behind image 0, a text that is no formula, a fault, a book, a seed. */
    private static YesNoClones used() {
        YesNoClones x = Objects.with(232, 63);
        x.seed(99);
        x.keep(0);
        x.base(2);
        Objects.type(x, "^ac").tell();
        Objects.type(x, "&ab!").tell();
        x.base(5);
        Objects.type(x, "|a");
        x.write(232, 1);
        x.write(1, NONE);
        x.seed(77);
        return x;
    }

    /** Six functions, sixteen deeds behind image 1 and more before, a text of 60, a book of 20. */
    private static YesNoClones crowded() {
        YesNoClones x = Objects.with(63, 240, 0, 150, 63, 232);
        x.keep(1);
        for (int i = 0; i < 17; i++) x.base(i);
        x.take(2);
        Objects.type(x, "&").tell();
        Objects.type(x, "?abc").tell();
        x.base(0b110110);
        Objects.type(x, "!".repeat(59) + "a");
        for (int i = 0; i < 20; i++) x.write(9 * i, x.cost(9 * i, 0));
        x.seed(GREATEST);
        return x;
    }

    /** All that can be seen of an object: it is used up thereby. */
    private static String seen(YesNoClones x) {
        StringBuilder all = new StringBuilder();
        for (int what = 0; what <= 12; what++) all.append(x.told(what)).append(' ');
        all.append("fault ").append(x.fault()).append(" costs ");
        for (int code = 7; code < 256; code += 31) all.append(x.cost(code, 0)).append(' ').append(x.cost(code, 5)).append(' ');
        shelf(x, all);
        for (int n = 0; n < 17; n++) {
            all.append(" undo ").append(x.undo(1));
            shelf(x, all);
        }
        for (int i = 0; i < 2; i++) {
            all.append(" back ").append(x.goBack(i));
            shelf(x, all);
        }
        x.take(0);
        all.append(" text ").append(x.told(1)).append(' ').append(x.tell()).append(' ').append(x.fault());
        shelf(x, all);
        all.append(" book ").append(x.told(11)).append(' ').append(x.tear());
        return all.toString();
    }

    private static void shelf(YesNoClones x, StringBuilder all) {
        all.append(" [");
        for (int f = 0; f < x.told(0); f++) all.append(x.function(f, 0)).append(' ');
        int seed = x.seed(0);
        x.seed(seed);
        all.append("base ").append(x.told(2)).append(" seed ").append(seed).append(']');
    }

    // ---- refusals

    private static final String[] SEEN = new String[3];

    private static void refused(int state, String name, Call call, int want) {
        YesNoClones x = made(state);
        doc.due(name, call.on(x), want);
        doc.same("what is seen behind " + name, seen(x), SEEN[state]);
    }

    /** In each of the three states, for each number out of the bounds. */
    private static void refusedOut(String name, int least, int most, CallOf call, int want) {
        for (int state = FRESH; state <= CROWDED; state++) out(state, name, least, most, call, want);
    }

    private static void out(int state, String name, int least, int most, CallOf call, int want) {
        for (int n : beyond(least, most)) refused(state, name + " of " + n, x -> call.on(x, n), want);
    }

    /** Numbers out of these bounds: next to them, the farthest, and those that fewer bits, or a shift, would bring back. */
    private static List<Integer> beyond(int least, int most) {
        TreeSet<Long> some = new TreeSet<>();
        for (long near : new long[] {least, most, least + 1L, most + 1L}) {
            for (int bits : new int[] {1, 2, 3, 5, 6, 8, 16, 30, 31, 32}) {
                some.add(near + (1L << bits));
                some.add(near - (1L << bits));
            }
        }
        for (long n : new long[] {least - 1L, most + 1L, NONE, LEAST, GREATEST, UNKNOWN, OUTSIDE, NOT, FULL}) some.add(n);
        List<Integer> out = new ArrayList<>();
        for (long n : some) if (n >= LEAST && n <= GREATEST && (n < least || n > most)) out.add((int) n);
        return out;
    }

    private static void unknowns() {
        doc.says(0, "UNKNOWN (a FUNCTION of THE SHELF, TRAIT, PLACE, IMAGE that there is not; a SET that has bits of none)");
        for (int state = FRESH; state <= CROWDED; state++) {
            int last = functionsOf(state) - 1;
            out(state, "function(f, 0)", 0, last, (x, f) -> x.function(f, 0), UNKNOWN);
            out(state, "fails(f, 0)", 0, last, (x, f) -> x.fails(f, 0), UNKNOWN);
            out(state, "keeps(f, 1, 1)", 0, last, (x, f) -> x.keeps(f, 1, 1), UNKNOWN);
            out(state, "put(f, 0, 0, 0)", 0, last, (x, f) -> x.put(f, 0, 0, 0), UNKNOWN);
            out(state, "put(0, f, 0, 0)", 0, last, (x, f) -> x.put(0, f, 0, 0), UNKNOWN);
            out(state, "put(0, 0, f, 0)", 0, last, (x, f) -> x.put(0, 0, f, 0), UNKNOWN);
            out(state, "put(0, 0, 0, f)", 0, last, (x, f) -> x.put(0, 0, 0, f), UNKNOWN);
            out(state, "turn(f)", 0, last, (x, f) -> x.turn(f), UNKNOWN);
            out(state, "take(f)", 0, last, (x, f) -> x.take(f), UNKNOWN);
            out(state, "base(set)", 0, (1 << last + 1) - 1, (x, set) -> x.base(set), UNKNOWN);
        }
        refusedOut("fails(0, trait)", 0, 11, (x, trait) -> x.fails(0, trait), UNKNOWN);
        refusedOut("place(k, 0)", 0, 45, (x, k) -> x.place(k, 0), UNKNOWN);
        refusedOut("above(k, 0)", 0, 45, (x, k) -> x.above(k, 0), UNKNOWN);
        refusedOut("below(k, 0)", 0, 45, (x, k) -> x.below(k, 0), UNKNOWN);
        refusedOut("meet(k, 0)", 0, 45, (x, k) -> x.meet(k, 0), UNKNOWN);
        refusedOut("meet(0, l)", 0, 45, (x, l) -> x.meet(0, l), UNKNOWN);
        refusedOut("join(k, 0)", 0, 45, (x, k) -> x.join(k, 0), UNKNOWN);
        refusedOut("join(0, l)", 0, 45, (x, l) -> x.join(0, l), UNKNOWN);
        refusedOut("keep(i)", 0, 1, (x, i) -> x.keep(i), UNKNOWN);
        refusedOut("goBack(i)", 0, 1, (x, i) -> x.goBack(i), UNKNOWN);
    }

    private static void outsides() {
        doc.says(0, "OUTSIDE (another number out of its bounds)");
        refusedOut("feed(letter)", 0, 255, (x, letter) -> x.feed(letter), OUTSIDE);
        refusedOut("told(what)", 0, 12, (x, what) -> x.told(what), OUTSIDE);
        refusedOut("cost(code, 0)", 0, 255, (x, code) -> x.cost(code, 0), OUTSIDE);
        refusedOut("cost(240, what)", 0, 5, (x, what) -> x.cost(240, what), OUTSIDE);
        refusedOut("cost(1, what)", 0, 5, (x, what) -> x.cost(1, what), OUTSIDE);
        refusedOut("spell(code, 0)", 0, 255, (x, code) -> x.spell(code, 0), OUTSIDE);
        refusedOut("spell(240, k)", 0, GREATEST, (x, k) -> x.spell(240, k), OUTSIDE);
        refusedOut("spell(1, k)", 0, GREATEST, (x, k) -> x.spell(1, k), OUTSIDE);
        refusedOut("costing(n)", 0, GREATEST, (x, n) -> x.costing(n), OUTSIDE);
        refusedOut("place(45, what)", 0, 4, (x, what) -> x.place(45, what), OUTSIDE);
        refusedOut("above(45, i)", 0, GREATEST, (x, i) -> x.above(45, i), OUTSIDE);
        refusedOut("below(0, i)", 0, GREATEST, (x, i) -> x.below(0, i), OUTSIDE);
        refusedOut("relation(k, 0, 0)", 1, 3, (x, k) -> x.relation(k, 0, 0), OUTSIDE);
        refusedOut("relation(k, 1, 1)", 1, 3, (x, k) -> x.relation(k, 1, 1), OUTSIDE);
        refusedOut("relation(1, rows, 0)", 0, 3, (x, rows) -> x.relation(1, rows, 0), OUTSIDE);
        refusedOut("relation(2, rows, 0)", 0, 15, (x, rows) -> x.relation(2, rows, 0), OUTSIDE);
        refusedOut("relation(3, rows, 1)", 0, 255, (x, rows) -> x.relation(3, rows, 1), OUTSIDE);
        refusedOut("relation(1, 1, what)", 0, 1, (x, what) -> x.relation(1, 1, what), OUTSIDE);
        refusedOut("drift(n)", 1, 6, (x, n) -> x.drift(n), OUTSIDE);
        refusedOut("undo(n)", 1, 16, (x, n) -> x.undo(n), OUTSIDE);
        refusedOut("write(code, 0)", 0, 255, (x, code) -> x.write(code, 0), OUTSIDE);
        refusedOut("seed(v)", 0, GREATEST, (x, v) -> x.seed(v), OUTSIDE);
        for (int state = USED; state <= CROWDED; state++) {
            out(state, "function(0, what)", 0, 6, (x, what) -> x.function(0, what), OUTSIDE);
            out(state, "keeps(0, k, 0)", 1, 3, (x, k) -> x.keeps(0, k, 0), OUTSIDE);
            out(state, "keeps(1, 1, rows)", 0, 3, (x, rows) -> x.keeps(1, 1, rows), OUTSIDE);
            out(state, "keeps(1, 2, rows)", 0, 15, (x, rows) -> x.keeps(1, 2, rows), OUTSIDE);
            out(state, "keeps(1, 3, rows)", 0, 255, (x, rows) -> x.keeps(1, 3, rows), OUTSIDE);
        }
    }

    private static void nots() {
        doc.says(0, "NOT (not now, as told)");
        for (int n = 1; n <= 16; n++) {
            int last = n;
            refused(FRESH, "undo(" + n + ")", x -> x.undo(last), NOT);
            if (n > 3) refused(USED, "undo(" + n + ")", x -> x.undo(last), NOT);
        }
        refused(FRESH, "goBack(0)", x -> x.goBack(0), NOT);
        refused(FRESH, "goBack(1)", x -> x.goBack(1), NOT);
        refused(USED, "goBack(1)", x -> x.goBack(1), NOT);
        refused(CROWDED, "goBack(0)", x -> x.goBack(0), NOT);
    }

    private static void fulls() {
        doc.says(0, "FULL. They are far below all that is counted");
        for (int letter = 0; letter < 256; letter++) {
            int one = letter;
            refused(CROWDED, "feed(" + letter + ")", x -> x.feed(one), FULL);
        }
        refused(CROWDED, "tell()", x -> x.tell(), FULL);
        refused(CROWDED, "put(0, 0, 0, 0)", x -> x.put(0, 0, 0, 0), FULL);
        refused(CROWDED, "put(5, 4, 3, 2)", x -> x.put(5, 4, 3, 2), FULL);
        refused(CROWDED, "write(0, 0)", x -> x.write(0, 0), FULL);
        refused(CROWDED, "write(255, -1)", x -> x.write(255, NONE), FULL);
    }

    private static void order() {
        doc.says(0, "REFUSALS, of several the first in this order: UNKNOWN (");
        for (int state = FRESH; state <= CROWDED; state++) {
            int none = functionsOf(state);
            for (int n : beyond(0, 6)) refused(state, "function(" + none + ", " + n + ")", x -> x.function(none, n), UNKNOWN);
            for (int n : beyond(1, 3)) refused(state, "keeps(" + none + ", " + n + ", 0)", x -> x.keeps(none, n, 0), UNKNOWN);
            for (int n : beyond(0, 3)) refused(state, "keeps(" + none + ", 1, " + n + ")", x -> x.keeps(none, 1, n), UNKNOWN);
            for (int n : beyond(0, 4)) refused(state, "place(46, " + n + ")", x -> x.place(46, n), UNKNOWN);
            for (int n : beyond(0, GREATEST)) refused(state, "above(46, " + n + ")", x -> x.above(46, n), UNKNOWN);
            for (int n : beyond(0, GREATEST)) refused(state, "below(-1, " + n + ")", x -> x.below(-1, n), UNKNOWN);
        }
        for (int n : beyond(0, 1)) refused(FRESH, "goBack(" + n + "), ahead of NOT", x -> x.goBack(n), UNKNOWN);
        for (int n : beyond(0, 5)) refused(CROWDED, "put(5, 5, 5, " + n + "), ahead of FULL", x -> x.put(5, 5, 5, n), UNKNOWN);
        for (int n : beyond(1, 16)) refused(FRESH, "undo(" + n + "), ahead of NOT", x -> x.undo(n), OUTSIDE);
        for (int n : beyond(0, 255)) {
            refused(CROWDED, "feed(" + n + "), ahead of FULL", x -> x.feed(n), OUTSIDE);
            refused(CROWDED, "write(" + n + ", 0), ahead of FULL", x -> x.write(n, 0), OUTSIDE);
        }
        for (int n : beyond(1, 6)) refused(CROWDED, "drift(" + n + ") of six", x -> x.drift(n), OUTSIDE);
    }

    /** That the three objects are what the other tests take them for, and that a change would be seen. */
    private static void nothingChanges() {
        doc.says(0, "What is refused changes nothing.");
        int[] asked = {0, 1, 2, 3, 5, 10, 11, 12};
        int[][] due = {{0, 0, 0, 4095, 3, 0, NONE, 0}, {3, 2, 5, 1, 128, 2, NONE, 3}, {6, 60, 54, 3, 64, 20, NONE, 16}};
        for (int state = FRESH; state <= CROWDED; state++)
            for (int i = 0; i < asked.length; i++)
                doc.due("told(" + asked[i] + ") of " + state, made(state).told(asked[i]), due[state][i]);
        doc.due("fault() of one in use", used().fault(), 3);
        doc.same("a change", seen(used()).equals(SEEN[USED]) ? "not seen" : "seen", "not seen");
        int number = 0;
        Call[] changes = {x -> x.feed('a'), x -> x.tell(), x -> x.put(0, 0, 0, 0), x -> x.turn(1), x -> x.take(0), x -> x.base(5),
            x -> x.base(4), x -> x.drift(1), x -> x.undo(1), x -> x.write(1, 1), x -> x.tear(), x -> x.seed(1), x -> x.keep(0),
            x -> x.keep(1), x -> x.goBack(0)};
        for (Call change : changes) {
            YesNoClones x = used();
            change.on(x);
            doc.same("change " + number++, seen(x).equals(SEEN[USED]) ? "not seen" : "seen", "seen");
        }
    }

    public static void main(String[] args) throws IOException {
        doc = new Sentences("RefusalsTest", args);
        for (int state = FRESH; state <= CROWDED; state++) SEEN[state] = seen(made(state));
        nothingChanges();
        unknowns();
        outsides();
        nots();
        fulls();
        order();
        doc.end();
    }
}
