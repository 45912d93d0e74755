/** Functions of three yes-no variables, and all that can be made of some of them. */
public final class YesNoClones {
    public static final int NONE = -1, UNKNOWN = -1000000001, OUTSIDE = -1000000002, NOT = -1000000003, FULL = -1000000004;

    private static final int CODES = 256;

    private final Formula formula = new Formula();
    private final Places places = new Places();
    private final Ways ways = new Ways();
    private final Book book = new Book();
    private final Shelf shelf = new Shelf();
    private final Past past = new Past();
    private final int[] imageSeeds = new int[Past.IMAGES];
    private final boolean[] imageKept = new boolean[Past.IMAGES];
    private int seedNow = 0;
    private int faultPlace = NONE;

    public YesNoClones() {
    }

    // ---- functions

    public int feed(int letter) {
        if (letter < 0 || letter > 255) {
            return OUTSIDE;
        }
        return formula.type(letter) ? formula.size() : FULL;
    }

    public int tell() {
        if (shelf.isFull()) {
            return FULL;
        }
        int fault = formula.firstFault(shelf.size());
        int code = fault == 0 ? formula.value(shelf) : 0;
        faultPlace = fault == 0 ? NONE : formula.reached();
        formula.clear();
        if (fault != 0) {
            return -10 - fault;
        }
        past.push(shelf);
        return shelf.add(code);
    }

    public int fault() {
        return faultPlace;
    }

    public int told(int what) {
        switch (what) {
            case 0: return shelf.size();
            case 1: return formula.size();
            case 2: return shelf.chosenSet();
            case 3: return common();
            case 4: return places.numberOf(common());
            case 5: return reckoned().madeCount();
            case 6: return reckoned().greatestCost();
            case 7: return reckoned().leastCodeCosting(reckoned().greatestCost());
            case 8: return spare();
            case 9: return places.count();
            case 10: return book.size();
            case 11: return book.firstWrong(reckoned());
            case 12: return past.size();
            default: return OUTSIDE;
        }
    }

    public int function(int f, int what) {
        if (!shelf.holds(f)) {
            return UNKNOWN;
        }
        int code = shelf.codeAt(f);
        switch (what) {
            case 0: return code;
            case 1: return Codes.variablesOf(code);
            case 2: return Codes.arityOf(code);
            case 3: return Codes.sumOf(code);
            case 4: return places.traitsOf(code);
            case 5: return Codes.turnedOver(code);
            case 6: return reckoned().costOf(code);
            default: return OUTSIDE;
        }
    }

    public int fails(int f, int trait) {
        if (!shelf.holds(f) || trait < 0 || trait >= Traits.COUNT) {
            return UNKNOWN;
        }
        return Traits.firstFail(shelf.codeAt(f), trait);
    }

    public int cost(int code, int what) {
        if (!isCode(code)) {
            return OUTSIDE;
        }
        Costs costs = reckoned();
        switch (what) {
            case 0: return costs.costOf(code);
            case 1: return costs.topOf(code);
            case 2: return ways.partOf(code, 0);
            case 3: return ways.partOf(code, 1);
            case 4: return ways.partOf(code, 2);
            case 5: return ways.lengthOf(code);
            default: return OUTSIDE;
        }
    }

    public int spell(int code, int k) {
        if (!isCode(code) || k < 0) {
            return OUTSIDE;
        }
        reckoned();
        return k < ways.lengthOf(code) ? ways.letterOf(code, k) : NONE;
    }

    public int costing(int n) {
        return n < 0 ? OUTSIDE : reckoned().countCosting(n);
    }

    // ---- places

    public int place(int k, int what) {
        if (!places.holds(k)) {
            return UNKNOWN;
        }
        switch (what) {
            case 0: return places.setOf(k);
            case 1: return places.countIn(places.setOf(k));
            case 2: return places.countNext(k, true);
            case 3: return places.countNext(k, false);
            case 4: return places.rankOf(k);
            default: return OUTSIDE;
        }
    }

    public int above(int k, int i) {
        return nextPlace(k, i, true);
    }

    public int below(int k, int i) {
        return nextPlace(k, i, false);
    }

    public int meet(int k, int l) {
        if (!places.holds(k) || !places.holds(l)) {
            return UNKNOWN;
        }
        return places.numberOf(places.closureOf(places.setOf(k) | places.setOf(l)));
    }

    public int join(int k, int l) {
        if (!places.holds(k) || !places.holds(l)) {
            return UNKNOWN;
        }
        return places.numberOf(places.setOf(k) & places.setOf(l));
    }

    public int relation(int k, int rows, int what) {
        if (!Relations.isRelation(k, rows) || what < 0 || what > 1) {
            return OUTSIDE;
        }
        int keepers = 0;
        int shared = Traits.ALL;
        for (int code = 0; code < CODES; code++) {
            if (Relations.isKeptBy(code, k, rows)) {
                keepers++;
                shared &= places.traitsOf(code);
            }
        }
        return what == 0 ? keepers : places.numberOf(shared);
    }

    public int keeps(int f, int k, int rows) {
        if (!shelf.holds(f)) {
            return UNKNOWN;
        }
        if (!Relations.isRelation(k, rows)) {
            return OUTSIDE;
        }
        return Relations.isKeptBy(shelf.codeAt(f), k, rows) ? 1 : 0;
    }

    // ---- deeds

    public int put(int f, int x, int y, int z) {
        if (!shelf.holds(f) || !shelf.holds(x) || !shelf.holds(y) || !shelf.holds(z)) {
            return UNKNOWN;
        }
        if (shelf.isFull()) {
            return FULL;
        }
        past.push(shelf);
        return shelf.add(Codes.putOn(shelf.codeAt(f), shelf.codeAt(x), shelf.codeAt(y), shelf.codeAt(z)));
    }

    public int turn(int f) {
        if (!shelf.holds(f)) {
            return UNKNOWN;
        }
        past.push(shelf);
        int code = Codes.turnedOver(shelf.codeAt(f));
        shelf.change(f, code);
        return code;
    }

    public int take(int f) {
        if (!shelf.holds(f)) {
            return UNKNOWN;
        }
        past.push(shelf);
        shelf.remove(f);
        return shelf.size();
    }

    public int base(int set) {
        if (set >> shelf.size() != 0) {
            return UNKNOWN;
        }
        past.push(shelf);
        shelf.choose(set);
        return common();
    }

    public int drift(int n) {
        if (n < 1 || n > Shelf.ROOM) {
            return OUTSIDE;
        }
        for (int i = 0; i < n && !shelf.isFull(); i++) {
            past.push(shelf);
            shelf.add(draw(CODES));
        }
        return shelf.size();
    }

    public int undo(int n) {
        if (n < 1 || n > Past.DEEDS) {
            return OUTSIDE;
        }
        return past.goBackBy(n, shelf) ? shelf.size() : NOT;
    }

    // ---- the book

    public int write(int code, int v) {
        if (!isCode(code)) {
            return OUTSIDE;
        }
        return book.add(code, v) ? book.size() : FULL;
    }

    public int tear() {
        int had = book.size();
        book.clear();
        return had;
    }

    // ---- images

    public int seed(int v) {
        if (v < 0) {
            return OUTSIDE;
        }
        int was = seedNow;
        seedNow = v;
        return was;
    }

    public int keep(int i) {
        if (i < 0 || i >= Past.IMAGES) {
            return UNKNOWN;
        }
        past.saveImage(i, shelf);
        imageSeeds[i] = seedNow;
        imageKept[i] = true;
        return 1;
    }

    public int goBack(int i) {
        if (i < 0 || i >= Past.IMAGES) {
            return UNKNOWN;
        }
        if (!imageKept[i]) {
            return NOT;
        }
        past.loadImage(i, shelf);
        seedNow = imageSeeds[i];
        return 1;
    }

    // ---- what several calls need

    private static boolean isCode(int code) {
        return code >= 0 && code < CODES;
    }

    private int nextPlace(int k, int i, boolean up) {
        if (!places.holds(k)) {
            return UNKNOWN;
        }
        return i < 0 ? OUTSIDE : places.next(k, i, up);
    }

    private int common() {
        return commonOf(shelf.chosenSet());
    }

    private int commonOf(int set) {
        int shared = Traits.ALL;
        for (int f = 0; f < shelf.size(); f++) {
            if ((set >> f & 1) != 0) {
                shared &= places.traitsOf(shelf.codeAt(f));
            }
        }
        return shared;
    }

    private int spare() {
        int set = shelf.chosenSet();
        int all = common();
        int spared = 0;
        for (int f = 0; f < shelf.size(); f++) {
            if ((set >> f & 1) != 0 && commonOf(set & ~(1 << f)) == all) {
                spared |= 1 << f;
            }
        }
        return spared;
    }

    /** The costs of the base as it is now. */
    private Costs reckoned() {
        Costs costs = ways.costs();
        if (!costs.areOf(shelf)) {
            costs.reckon(shelf, places, common());
            ways.forget();
        }
        return costs;
    }

    private int draw(int n) {
        seedNow = (int) ((seedNow * 1103515245L + 12345L) & 0x7fffffffL);
        return n < 1 ? 0 : seedNow / 65536 % n;
    }

    /** A function as its code: bit p is what it tells at point p. */
    private static final class Codes {
        static final int A = 240, B = 204, C = 170;

        static int tells(int code, int point) {
            return code >> (point & 7) & 1;
        }

        static boolean isWithin(int p, int q) {
            return (p & ~q) == 0;
        }

        /** The bit of points that is variable v: a is the highest. */
        static int bitOf(int v) {
            return 4 >> v;
        }

        static int putOn(int f, int x, int y, int z) {
            return putOnBits(f, x, y, z, 8);
        }

        /** Rows of a relation are put on like codes, but have fewer bits. */
        static int putOnBits(int f, int x, int y, int z, int bits) {
            int result = 0;
            for (int p = 0; p < bits; p++) {
                int point = (x >> p & 1) << 2 | (y >> p & 1) << 1 | z >> p & 1;
                result |= tells(f, point) << p;
            }
            return result;
        }

        static int turnedOver(int code) {
            int result = 0;
            for (int p = 0; p < 8; p++) {
                result |= (1 - tells(code, 7 - p)) << p;
            }
            return result;
        }

        static boolean hangsOn(int code, int v) {
            for (int p = 0; p < 8; p++) {
                if (tells(code, p) != tells(code, p ^ bitOf(v))) {
                    return true;
                }
            }
            return false;
        }

        static int variablesOf(int code) {
            int set = 0;
            for (int v = 0; v < 3; v++) {
                if (hangsOn(code, v)) {
                    set |= 1 << v;
                }
            }
            return set;
        }

        static int arityOf(int code) {
            for (int v = 2; v >= 0; v--) {
                if (hangsOn(code, v)) {
                    return v + 1;
                }
            }
            return 0;
        }

        /** Point q is in it just if an odd number of the points within q tell 1. */
        static int sumOf(int code) {
            int set = 0;
            for (int q = 0; q < 8; q++) {
                int odd = 0;
                for (int p = 0; p <= q; p++) {
                    if (isWithin(p, q)) {
                        odd ^= tells(code, p);
                    }
                }
                set |= odd << q;
            }
            return set;
        }
    }

    /** The twelve traits, and where a code fails them first. */
    private static final class Traits {
        static final int COUNT = 12, ALL = 4095;
        private static final int SINGLES = 1 | 1 << 1 | 1 << 2 | 1 << 4;

        static int of(int code) {
            int set = 0;
            for (int trait = 0; trait < COUNT; trait++) {
                if (firstFail(code, trait) == NONE) {
                    set |= 1 << trait;
                }
            }
            return set;
        }

        static int firstFail(int code, int trait) {
            switch (trait) {
                case 0: return Codes.tells(code, 0) == 0 ? NONE : 0;
                case 1: return Codes.tells(code, 7) == 1 ? NONE : 7;
                case 2: return firstFall(code);
                case 3: return firstLikeness(code);
                case 4: return firstProduct(code);
                case 5: return firstUnlikeBoth(code);
                case 6: return firstUnlikeEither(code);
                case 7: return firstTwoVariables(code);
                case 8: return firstStrangers(code, 1, true);
                case 9: return firstStrangers(code, 1, false);
                case 10: return firstStrangers(code, 0, true);
                case 11: return firstStrangers(code, 0, false);
                default: return NONE;
            }
        }

        private static int firstFall(int code) {
            for (int p = 0; p < 8; p++) {
                for (int q = p; q < 8 && Codes.tells(code, p) == 1; q++) {
                    if (Codes.isWithin(p, q) && Codes.tells(code, q) == 0) {
                        return 8 * p + q;
                    }
                }
            }
            return NONE;
        }

        private static int firstLikeness(int code) {
            for (int p = 0; p < 8; p++) {
                if (Codes.tells(code, p) == Codes.tells(code, 7 - p)) {
                    return p;
                }
            }
            return NONE;
        }

        private static int firstProduct(int code) {
            int others = Codes.sumOf(code) & ~SINGLES;
            for (int p = 0; p < 8; p++) {
                if ((others >> p & 1) != 0) {
                    return p;
                }
            }
            return NONE;
        }

        private static int firstUnlikeBoth(int code) {
            for (int p = 0; p < 8; p++) {
                for (int q = 0; q < 8; q++) {
                    if (Codes.tells(code, p & q) != (Codes.tells(code, p) & Codes.tells(code, q))) {
                        return 8 * p + q;
                    }
                }
            }
            return NONE;
        }

        private static int firstUnlikeEither(int code) {
            for (int p = 0; p < 8; p++) {
                for (int q = 0; q < 8; q++) {
                    if (Codes.tells(code, p | q) != (Codes.tells(code, p) | Codes.tells(code, q))) {
                        return 8 * p + q;
                    }
                }
            }
            return NONE;
        }

        private static int firstTwoVariables(int code) {
            int first = NONE;
            for (int v = 0; v < 3; v++) {
                if (Codes.hangsOn(code, v)) {
                    if (first != NONE) {
                        return 8 * first + v;
                    }
                    first = v;
                }
            }
            return NONE;
        }

        /** The first points that tell 'value' and have (for 1) or lack (for 0) no bit in common: two, or three of them. */
        private static int firstStrangers(int code, int value, boolean two) {
            for (int p = 0; p < 8; p++) {
                for (int q = p; q < 8 && Codes.tells(code, p) == value; q++) {
                    if (Codes.tells(code, q) == value) {
                        int third = two ? (areStrangers(value, p, q, q) ? 0 : NONE) : firstThird(code, value, p, q);
                        if (third != NONE) {
                            return two ? 8 * p + q : 64 * p + 8 * q + third;
                        }
                    }
                }
            }
            return NONE;
        }

        private static int firstThird(int code, int value, int p, int q) {
            for (int r = q; r < 8; r++) {
                if (Codes.tells(code, r) == value && areStrangers(value, p, q, r)) {
                    return r;
                }
            }
            return NONE;
        }

        private static boolean areStrangers(int value, int p, int q, int r) {
            return value == 1 ? (p & q & r) == 0 : (p | q | r) == 7;
        }
    }

    /** All sets of traits that are just what some functions have in common. */
    private static final class Places {
        private static final int SETS = Traits.ALL + 1;

        private final int[] traits = new int[CODES];
        private final int[] sets = new int[SETS];
        private final int[] numbers = new int[SETS];
        private final int[] ranks = new int[SETS];
        private int count = 0;

        Places() {
            for (int code = 0; code < CODES; code++) {
                traits[code] = Traits.of(code);
            }
            findSets();
            numberSets();
        }

        /** One function more at each step, so that each set is come to by as few as can be. */
        private void findSets() {
            for (int set = 0; set < SETS; set++) {
                ranks[set] = NONE;
            }
            ranks[Traits.ALL] = 0;
            sets[0] = Traits.ALL;
            int found = 1;
            for (int i = 0; i < found && i < SETS; i++) {
                int from = sets[i] & Traits.ALL;
                for (int code = 0; code < CODES; code++) {
                    int set = from & traits[code];
                    if (ranks[set] == NONE && found < SETS) {
                        ranks[set] = ranks[from] + 1;
                        sets[found] = set;
                        found++;
                    }
                }
            }
        }

        private void numberSets() {
            for (int set = 0; set < SETS; set++) {
                numbers[set] = NONE;
                if (ranks[set] != NONE && count < SETS) {
                    numbers[set] = count;
                    sets[count] = set;
                    count++;
                }
            }
        }

        int count() {
            return count;
        }

        boolean holds(int k) {
            return k >= 0 && k < count && k < SETS;
        }

        int traitsOf(int code) {
            return traits[code & CODES - 1];
        }

        int setOf(int k) {
            return holds(k) ? sets[k] : Traits.ALL;
        }

        int numberOf(int set) {
            return numbers[set & Traits.ALL];
        }

        int rankOf(int k) {
            return ranks[setOf(k) & Traits.ALL];
        }

        boolean isIn(int code, int set) {
            return (traitsOf(code) & set) == set;
        }

        int countIn(int set) {
            int n = 0;
            for (int code = 0; code < CODES; code++) {
                if (isIn(code, set)) {
                    n++;
                }
            }
            return n;
        }

        /** The traits that all functions with these have: what the places that have these share. */
        int closureOf(int set) {
            int shared = Traits.ALL;
            for (int k = 0; k < count && k < SETS; k++) {
                if ((sets[k] & set) == set) {
                    shared &= sets[k];
                }
            }
            return shared;
        }

        int countNext(int k, boolean up) {
            int n = 0;
            for (int l = 0; l < count && l < SETS; l++) {
                if (isNext(k, l, up)) {
                    n++;
                }
            }
            return n;
        }

        /** The i-th place just above (or just below) place k. */
        int next(int k, int i, boolean up) {
            int passed = 0;
            for (int l = 0; l < count && l < SETS; l++) {
                if (isNext(k, l, up)) {
                    if (passed == i) {
                        return l;
                    }
                    passed++;
                }
            }
            return NONE;
        }

        private boolean isNext(int k, int l, boolean up) {
            return up ? isJustAbove(l, k) : isJustAbove(k, l);
        }

        private boolean isJustAbove(int high, int low) {
            if (!isAbove(high, low)) {
                return false;
            }
            for (int k = 0; k < count && k < SETS; k++) {
                if (isAbove(high, k) && isAbove(k, low)) {
                    return false;
                }
            }
            return true;
        }

        private boolean isAbove(int high, int low) {
            return setOf(high) != setOf(low) && (setOf(high) & ~setOf(low)) == 0;
        }
    }

    /** Relations: sets of rows of one to three bits. */
    private static final class Relations {
        static boolean isRelation(int k, int rows) {
            return k >= 1 && k <= 3 && rows >> (1 << k) == 0;
        }

        static boolean isKeptBy(int code, int k, int rows) {
            int all = 1 << k;
            // of all rows nothing can lead out; it would be the longest search
            if (rows == (1 << all) - 1) {
                return true;
            }
            for (int x = 0; x < all; x++) {
                for (int y = 0; y < all && has(rows, x); y++) {
                    for (int z = 0; z < all && has(rows, y); z++) {
                        if (has(rows, z) && !has(rows, Codes.putOnBits(code, x, y, z, k))) {
                            return false;
                        }
                    }
                }
            }
            return true;
        }

        private static boolean has(int rows, int row) {
            return (rows >> row & 1) != 0;
        }
    }

    /** The text, and what it says as a formula: each sign ahead of what it binds. */
    private static final class Formula {
        static final int ROOM = 60;
        private static final int STRANGE = 1, MISSING = 2, BEHIND = 3, SHORT = 4;

        private final int[] text = new int[ROOM];
        private final int[] stack = new int[ROOM];
        private int size = 0;
        private int depth = 0;
        private int reached = 0;

        int size() {
            return size;
        }

        void clear() {
            size = 0;
        }

        boolean type(int letter) {
            if (size < 0 || size >= ROOM) {
                return false;
            }
            text[size] = letter;
            size++;
            return true;
        }

        /** The place that the latest look for a fault came to. */
        int reached() {
            return reached;
        }

        /** The number of the first fault from the left, 0 if there is none. */
        int firstFault(int functions) {
            int open = 1;
            for (int i = 0; i < size && i < ROOM; i++) {
                int fault = open == 0 ? BEHIND : faultOf(text[i], functions);
                if (fault != 0) {
                    reached = i;
                    return fault;
                }
                open += bound(text[i]) - 1;
            }
            reached = size;
            return open > 0 ? SHORT : 0;
        }

        private static int faultOf(int letter, int functions) {
            if (bound(letter) == NONE) {
                return STRANGE;
            }
            return isFunction(letter) && letter - 'A' >= functions ? MISSING : 0;
        }

        /** The code of a text without a fault: from the right, so that what a letter binds is there ahead of it. */
        int value(Shelf shelf) {
            depth = 0;
            for (int i = Math.min(size, ROOM) - 1; i >= 0; i--) {
                int letter = text[i];
                int bound = bound(letter);
                int code = isFunction(letter) ? shelf.codeAt(letter - 'A') : codeOf(letter);
                int x = bound > 0 ? pop() : 0;
                int y = bound > 1 ? pop() : 0;
                int z = bound > 2 ? pop() : 0;
                push(bound > 0 ? Codes.putOn(code, x, y, z) : code);
            }
            return pop();
        }

        private void push(int code) {
            if (depth >= 0 && depth < ROOM) {
                stack[depth] = code;
                depth++;
            }
        }

        private int pop() {
            if (depth < 1 || depth > ROOM) {
                return 0;
            }
            depth--;
            return stack[depth];
        }

        private static boolean isFunction(int letter) {
            return letter >= 'A' && letter <= 'F';
        }

        /** How many formulas stand behind a letter; NONE: it is no letter of formulas. */
        private static int bound(int letter) {
            if (isFunction(letter)) {
                return 3;
            }
            switch (letter) {
                case '0': case '1': case 'a': case 'b': case 'c': return 0;
                case '!': return 1;
                case '&': case '|': case '^': case '=': case '>': return 2;
                case '?': case 'm': return 3;
                default: return NONE;
            }
        }

        /** The code of a letter, with a, b, c for the formulas behind it. */
        private static int codeOf(int letter) {
            switch (letter) {
                case '1': return CODES - 1;
                case 'a': return Codes.A;
                case 'b': return Codes.B;
                case 'c': return Codes.C;
                case '!': return ~Codes.A & 255;
                case '&': return Codes.A & Codes.B;
                case '|': return Codes.A | Codes.B;
                case '^': return Codes.A ^ Codes.B;
                case '=': return ~(Codes.A ^ Codes.B) & 255;
                case '>': return (~Codes.A | Codes.B) & 255;
                case '?': return Codes.A & Codes.B | ~Codes.A & Codes.C;
                case 'm': return Codes.A & Codes.B | Codes.A & Codes.C | Codes.B & Codes.C;
                default: return 0;
            }
        }
    }

    /** The shelf and the base: codes, and which of them are chosen. */
    private static final class Shelf {
        static final int ROOM = 6;

        private final int[] codes = new int[ROOM];
        private int size = 0;
        private int chosen = 0;

        int size() {
            return size;
        }

        boolean isFull() {
            return size >= ROOM;
        }

        boolean holds(int f) {
            return f >= 0 && f < size && f < ROOM;
        }

        int codeAt(int f) {
            return holds(f) ? codes[f] : 0;
        }

        int chosenSet() {
            return chosen;
        }

        boolean isChosen(int f) {
            return holds(f) && (chosen >> f & 1) != 0;
        }

        int add(int code) {
            if (size < 0 || size >= ROOM) {
                return NONE;
            }
            codes[size] = code;
            size++;
            return size - 1;
        }

        void change(int f, int code) {
            if (holds(f)) {
                codes[f] = code;
            }
        }

        void remove(int f) {
            if (!holds(f)) {
                return;
            }
            for (int g = f; g + 1 < size && g + 1 < ROOM; g++) {
                codes[g] = codes[g + 1];
            }
            size--;
            int ahead = (1 << f) - 1;
            chosen = chosen & ahead | chosen >> 1 & ~ahead;
        }

        void choose(int set) {
            chosen = set;
        }

        void restart(int set) {
            size = 0;
            chosen = set;
        }
    }

    /** Shelves and bases as they were: ahead of the latest deeds, in a ring, and as images behind it. */
    private static final class Past {
        static final int DEEDS = 16, IMAGES = 2;
        private static final int SLOTS = DEEDS + IMAGES;

        private final int[] sizes = new int[SLOTS];
        private final int[] sets = new int[SLOTS];
        private final int[] codes = new int[SLOTS * Shelf.ROOM];
        private int size = 0;
        private int next = 0;

        /** How many deeds can be gone back by. */
        int size() {
            return size;
        }

        void push(Shelf shelf) {
            save(next, shelf);
            next = (next + 1) % DEEDS;
            size = Math.min(size + 1, DEEDS);
        }

        boolean goBackBy(int n, Shelf shelf) {
            if (n < 1 || n > size) {
                return false;
            }
            size -= n;
            next = (next + DEEDS - n) % DEEDS;
            load(next, shelf);
            return true;
        }

        void saveImage(int i, Shelf shelf) {
            save(DEEDS + i, shelf);
            size = 0;
        }

        void loadImage(int i, Shelf shelf) {
            load(DEEDS + i, shelf);
            size = 0;
        }

        private void save(int slot, Shelf shelf) {
            if (slot < 0 || slot >= SLOTS) {
                return;
            }
            sizes[slot] = shelf.size();
            sets[slot] = shelf.chosenSet();
            for (int f = 0; f < Shelf.ROOM; f++) {
                codes[slot * Shelf.ROOM + f] = shelf.codeAt(f);
            }
        }

        private void load(int slot, Shelf shelf) {
            if (slot < 0 || slot >= SLOTS) {
                return;
            }
            shelf.restart(sets[slot]);
            for (int f = 0; f < sizes[slot] && f < Shelf.ROOM; f++) {
                shelf.add(codes[slot * Shelf.ROOM + f]);
            }
        }
    }

    /** Entries that tell the cost of a code. */
    private static final class Book {
        static final int ROOM = 20;

        private final int[] codes = new int[ROOM];
        private final int[] values = new int[ROOM];
        private int size = 0;

        int size() {
            return size;
        }

        void clear() {
            size = 0;
        }

        boolean add(int code, int value) {
            if (size < 0 || size >= ROOM) {
                return false;
            }
            codes[size] = code;
            values[size] = value;
            size++;
            return true;
        }

        int firstWrong(Costs costs) {
            for (int i = 0; i < size && i < ROOM; i++) {
                if (costs.costOf(codes[i]) != values[i]) {
                    return i;
                }
            }
            return NONE;
        }
    }

    /** A function that is put on parts, one after the other. */
    private static final class Putting {
        private static final int CASES = 4;

        private int function = 0;
        private int variables = 0;
        private int arity = 0;
        /** What it tells behind the first part, where b and c tell 0 0, 0 1, 1 0, 1 1. */
        private final int[] cases = new int[CASES];
        private int low = 0;
        private int turns = 0;

        void begin(int code) {
            function = code;
            variables = Codes.variablesOf(code);
            arity = Codes.arityOf(code);
        }

        int arity() {
            return arity;
        }

        boolean hangsOn(int v) {
            return (variables >> v & 1) != 0;
        }

        void first(int x) {
            for (int i = 0; i < CASES; i++) {
                cases[i] = choose(x, spread(CASES + i), spread(i));
            }
        }

        /** Whether, behind the first part, each point of this code comes in some case. */
        boolean mayBecome(int code) {
            int some = 0;
            int all = CODES - 1;
            for (int i = 0; i < CASES; i++) {
                some |= cases[i];
                all &= cases[i];
            }
            return (code & ~some) == 0 && (all & ~code) == 0;
        }

        void second(int y) {
            low = choose(y, cases[2], cases[0]);
            turns = low ^ choose(y, cases[3], cases[1]);
        }

        /** Whether, behind the second part, this code is all right where the third has no say. */
        boolean canBecome(int code) {
            return ((code ^ low) & ~turns) == 0;
        }

        int third(int z) {
            return (low ^ turns & z) & CODES - 1;
        }

        private int spread(int point) {
            return Codes.tells(function, point) == 1 ? CODES - 1 : 0;
        }

        private static int choose(int which, int one, int zero) {
            return which & one | ~which & zero;
        }
    }

    /** What the base makes, each code as cheaply as can be: all codes of one cost, then those of the next. */
    private static final class Costs {
        private static final int MOST = 9999;

        private final int[] costs = new int[CODES];
        private final int[] tops = new int[CODES];
        /** The codes that are made, by cost; those of one cost rising. Those that cost n stand from starts[n] on. */
        private final int[] byCost = new int[CODES];
        private final int[] starts = new int[MOST + 2];
        /** The codes that are still to be made. */
        private final int[] missing = new int[CODES];
        /** Those of them that the first part leaves possible. */
        private final int[] aims = new int[CODES];
        private final int[] baseCodes = new int[Shelf.ROOM];
        private final Putting putting = new Putting();
        private int baseSet = NONE;
        private int listed = 0;
        private int missingCount = 0;
        private int aimCount = 0;
        private int level = 0;
        private int greatest = 0;
        private int top = NONE;

        /** Whether what was reckoned last holds for this shelf. */
        boolean areOf(Shelf shelf) {
            if (shelf.chosenSet() != baseSet) {
                return false;
            }
            for (int f = 0; f < Shelf.ROOM; f++) {
                if (shelf.isChosen(f) && shelf.codeAt(f) != baseCodes[f]) {
                    return false;
                }
            }
            return true;
        }

        /**
         * A base makes just the functions of the place of its common traits (src/test/java/MadeTest.java goes through
         * all bases), so the search may end when none of these is missing.
         */
        void reckon(Shelf shelf, Places places, int common) {
            start(shelf);
            miss(places, common);
            settle();
            // a code that costs more than all before it has three parts at most, and they cost the greatest at most
            for (int n = 1; n <= MOST && n <= 3 * greatest + 1 && missingCount > 0; n++) {
                level = n;
                for (int f = 0; f < Shelf.ROOM; f++) {
                    if (shelf.isChosen(f)) {
                        tryTop(f, shelf.codeAt(f));
                        dropMade();
                    }
                }
                settle();
            }
        }

        private void start(Shelf shelf) {
            baseSet = shelf.chosenSet();
            for (int f = 0; f < Shelf.ROOM; f++) {
                baseCodes[f] = shelf.codeAt(f);
            }
            for (int code = 0; code < CODES; code++) {
                costs[code] = NONE;
                tops[code] = NONE;
            }
            costs[Codes.A] = 0;
            costs[Codes.B] = 0;
            costs[Codes.C] = 0;
            listed = 0;
            level = 0;
            greatest = 0;
        }

        private void miss(Places places, int common) {
            missingCount = 0;
            for (int code = 0; code < CODES; code++) {
                if (costs[code] == NONE && places.isIn(code, common)) {
                    missing[missingCount] = code;
                    missingCount++;
                }
            }
        }

        private void dropMade() {
            int left = 0;
            for (int i = 0; i < missingCount && i < CODES; i++) {
                if (!isMade(missing[i])) {
                    missing[left] = missing[i];
                    left++;
                }
            }
            missingCount = left;
        }

        /** From now on what costs as much as this level may be a part. */
        private void settle() {
            if (level < 0 || level > MOST) {
                return;
            }
            starts[level] = listed;
            for (int code = 0; code < CODES; code++) {
                if (costs[code] == level && listed < CODES) {
                    byCost[listed] = code;
                    listed++;
                    greatest = level;
                }
            }
            starts[level + 1] = listed;
        }

        // A part that has no say costs nothing at the least, and of what costs nothing c has the least code: where the
        // function does not hang on a variable, c alone is tried. Tops are tried rising, so that the least comes first.

        private void tryTop(int f, int code) {
            top = f;
            putting.begin(code);
            boolean hangs = putting.hangsOn(0);
            for (int n = 0; n < level && (n == 0 || hangs); n++) {
                int to = partsTo(n, hangs);
                for (int i = Math.max(partsFrom(n, hangs), 0); i < to && i < CODES; i++) {
                    putting.first(byCost[i]);
                    aim();
                    if (aimCount > 0) {
                        trySeconds(level - 1 - n);
                    }
                }
            }
        }

        private void aim() {
            aimCount = 0;
            for (int i = 0; i < missingCount && i < CODES; i++) {
                if (!isMade(missing[i]) && putting.mayBecome(missing[i])) {
                    aims[aimCount] = missing[i];
                    aimCount++;
                }
            }
        }

        private void trySeconds(int left) {
            boolean hangs = putting.hangsOn(1);
            for (int n = 0; n <= left && (n == 0 || hangs); n++) {
                int from = partsFrom(left - n, putting.hangsOn(2));
                int to = partsTo(left - n, putting.hangsOn(2));
                int end = from < to ? partsTo(n, hangs) : 0;
                for (int i = Math.max(partsFrom(n, hangs), 0); i < end && i < CODES; i++) {
                    putting.second(byCost[i]);
                    tryThirds(from, to);
                }
            }
        }

        /** Goes through what is less: the codes that are aimed at, or the third parts. */
        private void tryThirds(int from, int to) {
            if (aimCount < to - from) {
                for (int i = 0; i < aimCount && i < CODES; i++) {
                    if (putting.canBecome(aims[i]) && !isMade(aims[i]) && someThird(aims[i], from, to)) {
                        make(aims[i]);
                    }
                }
                return;
            }
            for (int i = Math.max(from, 0); i < to && i < CODES; i++) {
                make(putting.third(byCost[i]));
            }
        }

        private boolean someThird(int code, int from, int to) {
            for (int i = Math.max(from, 0); i < to && i < CODES; i++) {
                if (putting.third(byCost[i]) == code) {
                    return true;
                }
            }
            return false;
        }

        private void make(int code) {
            if (isCode(code) && costs[code] == NONE) {
                costs[code] = level;
                tops[code] = top;
            }
        }

        /** Parts that cost n stand by cost from here on; c, where the function does not hang on them, is the first. */
        int partsFrom(int n, boolean hangs) {
            return hangs && n >= 0 && n <= level && n <= MOST ? starts[n] : 0;
        }

        int partsTo(int n, boolean hangs) {
            if (n < 0 || n > level || n > MOST) {
                return 0;
            }
            return hangs ? starts[n + 1] : n == 0 ? 1 : 0;
        }

        int madeAt(int i) {
            return i >= 0 && i < listed && i < CODES ? byCost[i] : NONE;
        }

        int madeCount() {
            return listed;
        }

        int greatestCost() {
            return greatest;
        }

        int leastCodeCosting(int n) {
            return madeAt(partsFrom(n, true));
        }

        int countCosting(int n) {
            return partsTo(n, true) - partsFrom(n, true);
        }

        private boolean isMade(int code) {
            return isCode(code) && costs[code] != NONE;
        }

        int costOf(int code) {
            return isCode(code) ? costs[code] : NONE;
        }

        int topOf(int code) {
            return isCode(code) ? tops[code] : NONE;
        }

        /** The code of the function by which this one is made. */
        int topCodeOf(int code) {
            int f = topOf(code);
            return f >= 0 && f < Shelf.ROOM ? baseCodes[f] : 0;
        }
    }

    /** The parts of what is made, and how it is spelled; looked for when they are asked for. */
    private static final class Ways {
        private static final int PARTS = 3;

        private final Costs costs = new Costs();
        private final Putting putting = new Putting();
        private final int[] parts = new int[PARTS * CODES];
        private final boolean[] known = new boolean[CODES];
        private final boolean[] needed = new boolean[CODES];
        /** 0: not yet known. */
        private final int[] lengths = new int[CODES];

        Costs costs() {
            return costs;
        }

        void forget() {
            for (int code = 0; code < CODES; code++) {
                known[code] = false;
                lengths[code] = 0;
            }
        }

        int partOf(int code, int i) {
            lookFor(code);
            return knownPart(code, i);
        }

        private int knownPart(int code, int i) {
            return isCode(code) && known[code] && i >= 0 && i < PARTS ? parts[PARTS * code + i] : NONE;
        }

        // Parts are tried rising, so that of several ways the one that is due comes first.

        private void lookFor(int code) {
            int left = costs.costOf(code) - 1;
            if (left < 0 || known[code]) {
                return;
            }
            putting.begin(costs.topCodeOf(code));
            boolean found = false;
            for (int x = 0; x < CODES && !found; x++) {
                if (isPart(x, 0, left)) {
                    putting.first(x);
                    found = putting.mayBecome(code) && lookForSecond(code, x, left - costs.costOf(x));
                }
            }
        }

        private boolean lookForSecond(int code, int x, int left) {
            for (int y = 0; y < CODES; y++) {
                if (isPart(y, 1, left)) {
                    putting.second(y);
                    int z = putting.canBecome(code) ? third(code, left - costs.costOf(y)) : NONE;
                    if (z != NONE) {
                        know(code, x, y, z);
                        return true;
                    }
                }
            }
            return false;
        }

        private int third(int code, int cost) {
            int to = costs.partsTo(cost, putting.hangsOn(2));
            for (int i = costs.partsFrom(cost, putting.hangsOn(2)); i < to && i < CODES; i++) {
                if (putting.third(costs.madeAt(i)) == code) {
                    return costs.madeAt(i);
                }
            }
            return NONE;
        }

        private boolean isPart(int code, int v, int most) {
            if (!putting.hangsOn(v)) {
                return code == Codes.C;
            }
            int cost = costs.costOf(code);
            return cost != NONE && cost <= most;
        }

        private void know(int code, int x, int y, int z) {
            if (!isCode(code)) {
                return;
            }
            known[code] = true;
            parts[PARTS * code] = putting.arity() > 0 ? x : NONE;
            parts[PARTS * code + 1] = putting.arity() > 1 ? y : NONE;
            parts[PARTS * code + 2] = putting.arity() > 2 ? z : NONE;
        }

        /** Parts cost less than what is made of them: dear codes first to see what is needed, cheap ones first to measure. */
        int lengthOf(int code) {
            int cost = costs.costOf(code);
            if (cost == NONE || lengths[code] > 0) {
                return cost == NONE ? NONE : lengths[code];
            }
            for (int other = 0; other < CODES; other++) {
                needed[other] = other == code;
            }
            int end = costs.partsTo(cost, true);
            for (int i = end - 1; i >= 0; i--) {
                needParts(costs.madeAt(i));
            }
            for (int i = 0; i < end; i++) {
                measure(costs.madeAt(i));
            }
            return lengths[code];
        }

        private void needParts(int code) {
            if (!isCode(code) || !needed[code]) {
                return;
            }
            lookFor(code);
            for (int i = 0; i < PARTS; i++) {
                int part = knownPart(code, i);
                if (isCode(part)) {
                    needed[part] = true;
                }
            }
        }

        private void measure(int code) {
            if (isCode(code) && needed[code]) {
                lengths[code] = 1 + partLength(code, 0) + partLength(code, 1) + partLength(code, 2);
            }
        }

        private int partLength(int code, int i) {
            int part = knownPart(code, i);
            return isCode(part) ? lengths[part] : 0;
        }

        /** Letter k of a code whose length is known: down into the part that has it, until it is the first one. */
        int letterOf(int code, int k) {
            int at = code;
            int left = k;
            for (int depth = 0; depth < CODES && left > 0; depth++) {
                left--;
                int i = 0;
                while (i < PARTS - 1 && left >= partLength(at, i)) {
                    left -= partLength(at, i);
                    i++;
                }
                at = knownPart(at, i);
            }
            return firstLetterOf(at);
        }

        private int firstLetterOf(int code) {
            switch (code) {
                case Codes.A: return 'a';
                case Codes.B: return 'b';
                case Codes.C: return 'c';
                default: return costs.topOf(code) == NONE ? NONE : 'A' + costs.topOf(code);
            }
        }
    }
}
