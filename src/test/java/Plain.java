import java.util.ArrayList;
import java.util.Arrays;
import java.util.HashMap;
import java.util.List;
import java.util.Map;
import java.util.concurrent.ConcurrentHashMap;

/** The document once more, word for word and slowly: what YesNoClones is held against. */
final class Plain {
    static final int NONE = -1, UNKNOWN = -1000000001, OUTSIDE = -1000000002, NOT = -1000000003, FULL = -1000000004;

    // ---- functions

    static boolean at(int code, int point) {
        return code / (1 << point) % 2 == 1;
    }

    static int codeOf(boolean[] tells) {
        int code = 0;
        for (int p = 0; p < 8; p++) code += tells[p] ? 1 << p : 0;
        return code;
    }

    static boolean within(int p, int q) {
        return (p | q) == q;
    }

    static boolean hangs(int code, int v) {
        for (int p = 0; p < 8; p++)
            for (int q = 0; q < 8; q++)
                if ((p ^ q) == new int[] {4, 2, 1}[v] && at(code, p) != at(code, q)) return true;
        return false;
    }

    static int variables(int code) {
        return (hangs(code, 0) ? 1 : 0) + (hangs(code, 1) ? 2 : 0) + (hangs(code, 2) ? 4 : 0);
    }

    static int arity(int code) {
        return hangs(code, 2) ? 3 : hangs(code, 1) ? 2 : hangs(code, 0) ? 1 : 0;
    }

    static int turned(int code) {
        boolean[] t = new boolean[8];
        for (int p = 0; p < 8; p++) t[p] = !at(code, 7 - p);
        return codeOf(t);
    }

    /** The one set of points that does what SUM does, by trying all of them. */
    static int sum(int code) {
        for (int set = 0; set < 256; set++) {
            boolean fits = true;
            for (int q = 0; q < 8 && fits; q++) {
                int n = 0;
                for (int p = 0; p < 8; p++) if (at(set, p) && within(p, q)) n++;
                fits = at(code, q) == (n % 2 == 1);
            }
            if (fits) return set;
        }
        throw new IllegalStateException("no sum of " + code);
    }

    static int put(int f, int x, int y, int z) {
        boolean[] t = new boolean[8];
        for (int p = 0; p < 8; p++) t[p] = at(f, (at(x, p) ? 4 : 0) + (at(y, p) ? 2 : 0) + (at(z, p) ? 1 : 0));
        return codeOf(t);
    }

    // ---- traits

    static List<Integer> telling(int code, boolean value) {
        List<Integer> points = new ArrayList<>();
        for (int p = 0; p < 8; p++) if (at(code, p) == value) points.add(p);
        return points;
    }

    static int fail(int code, int trait) {
        switch (trait) {
            case 0: return at(code, 0) ? 0 : NONE;
            case 1: return at(code, 7) ? NONE : 7;
            case 3:
                for (int p = 0; p < 8; p++) if (at(code, p) == at(code, 7 - p)) return p;
                return NONE;
            case 4:
                for (int p : telling(sum(code), true)) if (p != 0 && p != 1 && p != 2 && p != 4) return p;
                return NONE;
            case 7: {
                int[] on = {0, 0, 0};
                int n = 0;
                for (int v = 0; v < 3; v++) if (hangs(code, v)) on[n++] = v;
                return n < 2 ? NONE : 8 * on[0] + on[1];
            }
            case 2: case 5: case 6:
                for (int p = 0; p < 8; p++)
                    for (int q = 0; q < 8; q++) {
                        boolean f = at(code, p), g = at(code, q);
                        if (trait == 2 && within(p, q) && f && !g) return 8 * p + q;
                        if (trait == 5 && at(code, p & q) != (f && g)) return 8 * p + q;
                        if (trait == 6 && at(code, p | q) != (f || g)) return 8 * p + q;
                    }
                return NONE;
            case 8: case 10: {
                List<Integer> points = telling(code, trait == 8);
                int least = Integer.MAX_VALUE;
                for (int p : points)
                    for (int q : points)
                        if (p <= q && (trait == 8 ? (p & q) == 0 : (p | q) == 7)) least = Math.min(least, 8 * p + q);
                return least == Integer.MAX_VALUE ? NONE : least;
            }
            default: {
                List<Integer> points = telling(code, trait == 9);
                int all = 7, any = 0, least = Integer.MAX_VALUE;
                for (int p : points) {
                    all &= p;
                    any |= p;
                }
                if (points.isEmpty() || (trait == 9 ? all != 0 : any != 7)) return NONE;
                for (int p : points)
                    for (int q : points)
                        for (int r : points)
                            if (p <= q && q <= r && (trait == 9 ? (p & q & r) == 0 : (p | q | r) == 7))
                                least = Math.min(least, 64 * p + 8 * q + r);
                return least;
            }
        }
    }

    static final int[] TRAITS = new int[256];

    static {
        for (int code = 0; code < 256; code++)
            for (int t = 0; t < 12; t++) if (fail(code, t) == NONE) TRAITS[code] |= 1 << t;
    }

    // ---- places

    static int closure(int set) {
        int all = 4095;
        for (int code = 0; code < 256; code++) if ((TRAITS[code] & set) == set) all &= TRAITS[code];
        return all;
    }

    static final List<Integer> PLACES = new ArrayList<>();
    static final Map<Integer, Integer> RANKS = new HashMap<>();

    static {
        for (int set = 0; set < 4096; set++) if (closure(set) == set) PLACES.add(set);
        RANKS.put(4095, 0);
        for (int n = 1; RANKS.size() < PLACES.size(); n++)
            for (int set : new ArrayList<>(RANKS.keySet()))
                if (RANKS.get(set) == n - 1) for (int t : TRAITS) RANKS.putIfAbsent(set & t, n);
    }

    static boolean isAbove(int high, int low) {
        return high != low && (high | low) == low;
    }

    static boolean justAbove(int high, int low) {
        if (!isAbove(high, low)) return false;
        for (int s : PLACES) if (isAbove(high, s) && isAbove(s, low)) return false;
        return true;
    }

    static List<Integer> next(int k, boolean up) {
        List<Integer> found = new ArrayList<>();
        int set = PLACES.get(k);
        for (int l = 0; l < PLACES.size(); l++)
            if (up ? justAbove(PLACES.get(l), set) : justAbove(set, PLACES.get(l))) found.add(l);
        return found;
    }

    static int in(int set) {
        int n = 0;
        for (int t : TRAITS) if ((t & set) == set) n++;
        return n;
    }

    // ---- relations

    static boolean isRelation(int k, int rows) {
        return k >= 1 && k <= 3 && rows >= 0 && rows < (1 << (1 << k));
    }

    static boolean kept(int code, int k, int rows) {
        for (int x = 0; x < 1 << k; x++)
            for (int y = 0; y < 1 << k; y++)
                for (int z = 0; z < 1 << k; z++)
                    if (at(rows, x) && at(rows, y) && at(rows, z)) {
                        int row = 0;
                        for (int j = 0; j < k; j++)
                            row += at(code, (at(x, j) ? 4 : 0) + (at(y, j) ? 2 : 0) + (at(z, j) ? 1 : 0)) ? 1 << j : 0;
                        if (!at(rows, row)) return false;
                    }
        return true;
    }

    // ---- costs

    /** What a base makes: no trait is asked, and each part is tried, be it with a say or not. */
    static final class Made {
        final int[] cost = new int[256], top = new int[256];
        final int[][] parts = new int[256][];
        int made, greatest;

        Made(int set, List<Integer> shelf) {
            Arrays.fill(cost, NONE);
            Arrays.fill(top, NONE);
            List<List<Integer>> levels = new ArrayList<>();
            levels.add(List.of(170, 204, 240));
            for (int v : levels.get(0)) cost[v] = 0;
            made = 3;
            for (int n = 1; n <= 3 * greatest + 1 && n <= 9999 && made < 256; n++) {
                for (int f = 0; f < shelf.size(); f++)
                    if ((set >> f & 1) == 1) level(n, shelf.get(f), arity(shelf.get(f)), levels);
                List<Integer> now = new ArrayList<>();
                for (int c = 0; c < 256; c++) if (cost[c] == n) now.add(c);
                levels.add(now);
                if (!now.isEmpty()) greatest = n;
            }
            for (int f = 0; f < shelf.size(); f++) if ((set >> f & 1) == 1) ways(f, shelf.get(f), arity(shelf.get(f)));
        }

        private void level(int n, int f, int arity, List<List<Integer>> levels) {
            for (int i = 0; i <= (arity > 0 ? n - 1 : 0); i++)
                for (int j = 0; j <= (arity > 1 ? n - 1 - i : 0); j++) {
                    int k = n - 1 - i - j;
                    if (arity < 3 && k > 0) continue;
                    for (int x : levels.get(i))
                        for (int y : levels.get(j))
                            for (int z : levels.get(k)) {
                                int c = fastPut(f, x, y, z);
                                if (cost[c] == NONE) {
                                    cost[c] = n;
                                    made++;
                                }
                            }
                }
        }

        private void ways(int f, int code, int arity) {
            for (int x = 0; x < (arity > 0 ? 256 : 1); x++) {
                if (arity > 0 && cost[x] == NONE) continue;
                for (int y = 0; y < (arity > 1 ? 256 : 1); y++) {
                    if (arity > 1 && cost[y] == NONE) continue;
                    for (int z = 0; z < (arity > 2 ? 256 : 1); z++) {
                        if (arity > 2 && cost[z] == NONE) continue;
                        int c = fastPut(code, x, y, z);
                        int sum = 1 + (arity > 0 ? cost[x] : 0) + (arity > 1 ? cost[y] : 0) + (arity > 2 ? cost[z] : 0);
                        if (cost[c] != NONE && sum < cost[c]) throw new IllegalStateException("cheaper");
                        if (cost[c] == NONE) throw new IllegalStateException("not closed");
                        if (sum == cost[c] && top[c] == NONE) {
                            top[c] = f;
                            parts[c] = new int[] {arity > 0 ? x : NONE, arity > 1 ? y : NONE, arity > 2 ? z : NONE};
                        }
                    }
                }
            }
        }

        int part(int code, int i) {
            return parts[code] == null ? NONE : parts[code][i];
        }

        String spelled(int code) {
            if (cost[code] == NONE) return "";
            if (cost[code] == 0) return code == 240 ? "a" : code == 204 ? "b" : "c";
            StringBuilder text = new StringBuilder().append((char) ('A' + top[code]));
            for (int p : parts[code]) if (p != NONE) text.append(spelled(p));
            return text.toString();
        }
    }

    static int fastPut(int f, int x, int y, int z) {
        int c = 0;
        for (int q = 0; q < 8; q++)
            if ((f >> q & 1) == 1) c |= ((q & 4) != 0 ? x : ~x) & ((q & 2) != 0 ? y : ~y) & ((q & 1) != 0 ? z : ~z);
        return c & 255;
    }

    private static final Map<String, Made> ALL_MADE = new ConcurrentHashMap<>();

    Made made() {
        StringBuilder key = new StringBuilder();
        for (int f = 0; f < shelf.size(); f++)
            if ((chosen >> f & 1) == 1) key.append(f).append(':').append(shelf.get(f)).append(' ');
        return ALL_MADE.computeIfAbsent(key.toString(), k -> new Made(chosen, shelf));
    }

    // ---- what an object holds

    static final class Image {
        final List<Integer> shelf;
        final int chosen, seed;

        Image(List<Integer> shelf, int chosen, int seed) {
            this.shelf = new ArrayList<>(shelf);
            this.chosen = chosen;
            this.seed = seed;
        }
    }

    private String text = "";
    private int fault = NONE;
    private List<Integer> shelf = new ArrayList<>();
    private int chosen = 0, seed = 0;
    private final List<int[]> book = new ArrayList<>();
    private final List<Image> past = new ArrayList<>();
    private final Image[] images = new Image[2];

    private void deed() {
        past.add(new Image(shelf, chosen, seed));
        if (past.size() > 16) past.remove(0);
    }

    private void restore(Image image) {
        shelf = new ArrayList<>(image.shelf);
        chosen = image.chosen;
    }

    private boolean has(int f) {
        return f >= 0 && f < shelf.size();
    }

    private static boolean hasPlace(int k) {
        return k >= 0 && k < PLACES.size();
    }

    int feed(int letter) {
        if (letter < 0 || letter > 255) return OUTSIDE;
        if (text.length() == 60) return FULL;
        text += (char) letter;
        return text.length();
    }

    private int read;

    private static final class Fault extends RuntimeException {
        private static final long serialVersionUID = 1;
        final int number, place;

        Fault(int number, int place) {
            this.number = number;
            this.place = place;
        }
    }

    /** The code of the formula from 'read' on. */
    private int formula() {
        if (read == text.length()) throw new Fault(4, read);
        int place = read;
        char letter = text.charAt(read++);
        switch (letter) {
            case '0': return 0;
            case '1': return 255;
            case 'a': return 240;
            case 'b': return 204;
            case 'c': return 170;
            case '!': return 255 - formula();
            case '&': return formula() & formula();
            case '|': return formula() | formula();
            case '^': return formula() ^ formula();
            case '=': return 255 - (formula() ^ formula());
            case '>': return 255 - formula() | formula();
            case '?': {
                int x = formula(), y = formula(), z = formula();
                return x & y | 255 - x & z;
            }
            case 'm': {
                int x = formula(), y = formula(), z = formula();
                return x & y | x & z | y & z;
            }
            default:
                if (letter < 'A' || letter > 'F') throw new Fault(1, place);
                if (letter - 'A' >= shelf.size()) throw new Fault(2, place);
                int x = formula(), y = formula(), z = formula();
                return put(shelf.get(letter - 'A'), x, y, z);
        }
    }

    int tell() {
        if (shelf.size() == 6) return FULL;
        read = 0;
        fault = NONE;
        int answer;
        try {
            int code = formula();
            if (read < text.length()) throw new Fault(3, read);
            deed();
            shelf.add(code);
            answer = shelf.size() - 1;
        } catch (Fault f) {
            fault = f.place;
            answer = -10 - f.number;
        }
        text = "";
        return answer;
    }

    int fault() {
        return fault;
    }

    private int common(int set) {
        int all = 4095;
        for (int f = 0; f < shelf.size(); f++) if ((set >> f & 1) == 1) all &= TRAITS[shelf.get(f)];
        return all;
    }

    int told(int what) {
        switch (what) {
            case 0: return shelf.size();
            case 1: return text.length();
            case 2: return chosen;
            case 3: return common(chosen);
            case 4: return PLACES.indexOf(common(chosen));
            case 5: return made().made;
            case 6: return made().greatest;
            case 7:
                for (int c = 0; c < 256; c++) if (made().cost[c] == made().greatest) return c;
                return NONE;
            case 8: {
                int spare = 0;
                for (int f = 0; f < shelf.size(); f++)
                    if ((chosen >> f & 1) == 1 && common(chosen - (1 << f)) == common(chosen)) spare += 1 << f;
                return spare;
            }
            case 9: return PLACES.size();
            case 10: return book.size();
            case 11:
                for (int i = 0; i < book.size(); i++) if (made().cost[book.get(i)[0]] != book.get(i)[1]) return i;
                return NONE;
            case 12: return past.size();
            default: return OUTSIDE;
        }
    }

    int function(int f, int what) {
        if (!has(f)) return UNKNOWN;
        int code = shelf.get(f);
        switch (what) {
            case 0: return code;
            case 1: return variables(code);
            case 2: return arity(code);
            case 3: return sum(code);
            case 4: return TRAITS[code];
            case 5: return turned(code);
            case 6: return made().cost[code];
            default: return OUTSIDE;
        }
    }

    int fails(int f, int trait) {
        return !has(f) || trait < 0 || trait > 11 ? UNKNOWN : fail(shelf.get(f), trait);
    }

    int cost(int code, int what) {
        if (code < 0 || code > 255 || what < 0 || what > 5) return OUTSIDE;
        if (what == 0) return made().cost[code];
        if (what == 1) return made().cost[code] > 0 ? made().top[code] : NONE;
        if (what == 5) return made().cost[code] == NONE ? NONE : made().spelled(code).length();
        return made().cost[code] > 0 ? made().part(code, what - 2) : NONE;
    }

    int spell(int code, int k) {
        if (code < 0 || code > 255 || k < 0) return OUTSIDE;
        String spelled = made().spelled(code);
        return k < spelled.length() ? spelled.charAt(k) : NONE;
    }

    int costing(int n) {
        if (n < 0) return OUTSIDE;
        int count = 0;
        for (int c : made().cost) if (c == n) count++;
        return count;
    }

    int place(int k, int what) {
        if (!hasPlace(k)) return UNKNOWN;
        switch (what) {
            case 0: return PLACES.get(k);
            case 1: return in(PLACES.get(k));
            case 2: return next(k, true).size();
            case 3: return next(k, false).size();
            case 4: return RANKS.get(PLACES.get(k));
            default: return OUTSIDE;
        }
    }

    private int nextAt(int k, int i, boolean up) {
        if (!hasPlace(k)) return UNKNOWN;
        if (i < 0) return OUTSIDE;
        List<Integer> found = next(k, up);
        return i < found.size() ? found.get(i) : NONE;
    }

    int above(int k, int i) {
        return nextAt(k, i, true);
    }

    int below(int k, int i) {
        return nextAt(k, i, false);
    }

    int meet(int k, int l) {
        return hasPlace(k) && hasPlace(l) ? PLACES.indexOf(closure(PLACES.get(k) | PLACES.get(l))) : UNKNOWN;
    }

    int join(int k, int l) {
        return hasPlace(k) && hasPlace(l) ? PLACES.indexOf(PLACES.get(k) & PLACES.get(l)) : UNKNOWN;
    }

    int relation(int k, int rows, int what) {
        if (!isRelation(k, rows) || what < 0 || what > 1) return OUTSIDE;
        int n = 0, all = 4095;
        for (int c = 0; c < 256; c++)
            if (kept(c, k, rows)) {
                n++;
                all &= TRAITS[c];
            }
        return what == 0 ? n : PLACES.indexOf(all);
    }

    int keeps(int f, int k, int rows) {
        return !has(f) ? UNKNOWN : !isRelation(k, rows) ? OUTSIDE : kept(shelf.get(f), k, rows) ? 1 : 0;
    }

    int put4(int f, int x, int y, int z) {
        if (!has(f) || !has(x) || !has(y) || !has(z)) return UNKNOWN;
        if (shelf.size() == 6) return FULL;
        deed();
        shelf.add(put(shelf.get(f), shelf.get(x), shelf.get(y), shelf.get(z)));
        return shelf.size() - 1;
    }

    int turn(int f) {
        if (!has(f)) return UNKNOWN;
        deed();
        shelf.set(f, turned(shelf.get(f)));
        return shelf.get(f);
    }

    int take(int f) {
        if (!has(f)) return UNKNOWN;
        deed();
        int left = 0;
        for (int g = 0; g < shelf.size(); g++)
            if (g != f && (chosen >> g & 1) == 1) left |= 1 << (g > f ? g - 1 : g);
        chosen = left;
        shelf.remove(f);
        return shelf.size();
    }

    int base(int set) {
        if (set < 0 || set >= 1 << shelf.size()) return UNKNOWN;
        deed();
        chosen = set;
        return common(set);
    }

    int drift(int n) {
        if (n < 1 || n > 6) return OUTSIDE;
        for (int i = 0; i < n && shelf.size() < 6; i++) {
            deed();
            seed = (int) ((seed * 1103515245L + 12345) % (1L << 31));
            shelf.add(seed / 65536 % 256);
        }
        return shelf.size();
    }

    int undo(int n) {
        if (n < 1 || n > 16) return OUTSIDE;
        if (n > past.size()) return NOT;
        restore(past.get(past.size() - n));
        past.subList(past.size() - n, past.size()).clear();
        return shelf.size();
    }

    int write(int code, int v) {
        if (code < 0 || code > 255) return OUTSIDE;
        if (book.size() == 20) return FULL;
        book.add(new int[] {code, v});
        return book.size();
    }

    int tear() {
        int had = book.size();
        book.clear();
        return had;
    }

    int seed(int v) {
        if (v < 0) return OUTSIDE;
        int was = seed;
        seed = v;
        return was;
    }

    int keep(int i) {
        if (i < 0 || i > 1) return UNKNOWN;
        images[i] = new Image(shelf, chosen, seed);
        past.clear();
        return 1;
    }

    int goBack(int i) {
        if (i < 0 || i > 1) return UNKNOWN;
        if (images[i] == null) return NOT;
        restore(images[i]);
        seed = images[i].seed;
        past.clear();
        return 1;
    }
}
