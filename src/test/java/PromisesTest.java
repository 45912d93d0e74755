/** Each promise of the document by itself: ordinary inputs, the edges that it names, wrong inputs. */
public final class PromisesTest {
    private static final int NONE = -1, UNKNOWN = -1000000001, OUTSIDE = -1000000002, NOT = -1000000003, FULL = -1000000004;
    private static final int LEAST = Integer.MIN_VALUE, GREATEST = Integer.MAX_VALUE;
    private static int promise = 0;
    private static int rows = 0;
    private static int wrong = 0;

    private static void due(String call, int got, int want) {
        rows++;
        if (got != want) {
            wrong++;
            System.out.println("promise " + promise + ": " + call + " answered " + got + ", due is " + want);
        }
    }

    private static int tell(YesNoClones x, String text) {
        return Objects.type(x, text).tell();
    }

    private static int codeOf(String text) {
        YesNoClones x = new YesNoClones();
        return tell(x, text) == 0 ? x.function(0, 0) : NONE;
    }

    private static void fault(YesNoClones x, String text, int number, int place) {
        due("tell of " + text, tell(x, text), -10 - number);
        due("fault of " + text, x.fault(), place);
        due("the text behind " + text, x.told(1), 0);
    }

    private static void newObject() {
        promise = 1;
        int[] due = {0, 0, 0, 4095, 45, 3, 0, 170, 0, 46, 0, NONE, 0};
        YesNoClones x = new YesNoClones();
        for (int what = 0; what < due.length; what++) due("told(" + what + ")", x.told(what), due[what]);
        due("fault()", x.fault(), NONE);
        due("seed(3)", x.seed(3), 0);
        due("function(0, 0)", x.function(0, 0), UNKNOWN);
        due("goBack(0)", x.goBack(0), NOT);
        due("undo(1)", x.undo(1), NOT);
        due("NONE", YesNoClones.NONE, NONE);
        due("UNKNOWN", YesNoClones.UNKNOWN, UNKNOWN);
        due("OUTSIDE", YesNoClones.OUTSIDE, OUTSIDE);
        due("NOT", YesNoClones.NOT, NOT);
        due("FULL", YesNoClones.FULL, FULL);
    }

    private static void feed() {
        promise = 2;
        YesNoClones x = new YesNoClones();
        for (int n : new int[] {-1, 256, LEAST, GREATEST}) due("feed(" + n + ")", x.feed(n), OUTSIDE);
        due("told(1)", x.told(1), 0);
        due("feed(0)", x.feed(0), 1);
        due("feed(255)", x.feed(255), 2);
        for (int n = 3; n <= 60; n++) due("feed", x.feed('!'), n);
        due("feed(97) of 60", x.feed('a'), FULL);
        due("feed(-1) of 60", x.feed(-1), OUTSIDE);
        due("told(1)", x.told(1), 60);
        due("tell()", x.tell(), -11);
        due("fault()", x.fault(), 0);
    }

    private static void tell() {
        promise = 3;
        String[] texts = {"0", "1", "a", "b", "c", "!a", "&ab", "|ab", "^ab", "=ab", ">ab", "?abc", "mabc", "?bac", ">c&a!b"};
        int[] codes = {0, 255, 240, 204, 170, 15, 192, 252, 60, 195, 207, 202, 232, 226, 117};
        for (int i = 0; i < texts.length; i++) due(texts[i], codeOf(texts[i]), codes[i]);
        YesNoClones x = new YesNoClones();
        due("tell a>b", tell(x, ">ab"), 0);
        due("tell Abca", tell(x, "Abca"), 1);
        due("its code", x.function(1, 0), 187);
        due("tell BA", tell(x, "BAbac1!A11a"), 2);
        // b on y, a on x of Ab..: (x > y) with x, y put as B tells: Bxy. is y of x implied
        due("its code", x.function(2, 0), Plain.put(187, Plain.put(207, 204, 240, 170), 255, 255 - Plain.put(207, 255, 255, 240)));
        StringBuilder longest = new StringBuilder();
        for (int i = 0; i < 59; i++) longest.append('!');
        due("59 times !", tell(x, longest + "a"), 3);
        due("its code", x.function(3, 0), 15);
        due("60 times !", tell(x, longest + "!"), -14);
        due("its fault", x.fault(), 60);
        due("tell 29 times ^", tell(x, "^".repeat(29) + "ab".repeat(15)), 4);
        due("its code", x.function(4, 0), 60);
        due("tell c", tell(x, "c"), 5);
        due("tell x, FULL", tell(x, "x"), FULL);
        due("told(1)", x.told(1), 1);
        due("fault()", x.fault(), NONE);
        due("take(0)", x.take(0), 5);
        due("tell x", x.tell(), -11);
        due("told(1)", x.told(1), 0);
        due("tell F, which there is not", tell(x, "Fabc"), -12);
        due("tell E", tell(x, "Eabc"), 5);
        due("its code", x.function(5, 0), 170);
    }

    private static void faults() {
        promise = 4;
        YesNoClones x = new YesNoClones();
        due("fault()", x.fault(), NONE);
        fault(x, "", 4, 0);
        fault(x, "&a", 4, 2);
        fault(x, "&ab ", 3, 3);
        fault(x, "ax", 3, 1);
        fault(x, "&a ", 1, 2);
        fault(x, "M", 1, 0);
        fault(x, "G", 1, 0);
        fault(x, "@", 1, 0);
        fault(x, "2", 1, 0);
        fault(x, "d", 1, 0);
        fault(x, "&xA", 1, 1);
        fault(x, "&Ax", 2, 1);
        fault(x, "Aabc", 2, 0);
        fault(x, "?ab", 4, 3);
        fault(x, "\0", 1, 0);
        fault(x, "\u00ff", 1, 0);
        due("told(12)", x.told(12), 0);
        due("tell a", tell(x, "a"), 0);
        due("fault()", x.fault(), NONE);
        fault(x, "Babc", 2, 0);
        fault(x, "Aab", 4, 3);
        due("undo(1)", x.undo(1), 0);
        due("fault()", x.fault(), 3);
        due("drift(6)", x.drift(6), 6);
        due("tell", tell(x, "z"), FULL);
        due("fault()", x.fault(), 3);
    }

    private static void told() {
        promise = 5;
        YesNoClones x = Objects.with(232, 150, 202, 168);
        due("base(8)", x.base(8), 775);
        int[] due = {4, 0, 8, 775, 29, 10, 2, 128, 0, 46, 0, NONE, 5};
        for (int what = 0; what < due.length; what++) due("told(" + what + ")", x.told(what), due[what]);
        due("base(7)", x.base(7), 3);
        due("told(8)", x.told(8), 3);
        due("told(4)", x.told(4), 3);
        x.write(232, 1);
        x.write(200, 1);
        x.write(5, NONE);
        due("told(10)", x.told(10), 3);
        due("told(11)", x.told(11), x.cost(200, 0) == 1 ? NONE : 1);
        x.base(0);
        due("told(11)", x.told(11), 0);
        x.feed(7);
        due("told(1)", x.told(1), 1);
        for (int what : new int[] {-1, 13, LEAST, GREATEST}) due("told(" + what + ")", x.told(what), OUTSIDE);
        x = Objects.with(240, 240, 0);
        due("base(3)", x.base(3), 4095);
        due("told(8)", x.told(8), 3);
        due("base(6)", x.base(6), 1013);
        due("told(8)", x.told(8), 2);
        due("base(4)", x.base(4), 1013);
        due("told(8)", x.told(8), 0);
        due("told(5)", x.told(5), 4);
        due("told(7)", x.told(7), 0);
    }

    private static void function() {
        promise = 6;
        YesNoClones x = Objects.with(63, 240, 0, 10, 255);
        int[][] due = {{63, 3, 2, 65, 0, 3, NONE}, {240, 1, 1, 16, 4095, 240, 0}, {0, 0, 0, 0, 1013, 255, NONE},
            {10, 5, 3, 34, 0, 175, NONE}, {255, 0, 0, 1, 0, 0, NONE}};
        due[3][4] = Plain.TRAITS[10];
        due[4][4] = Plain.TRAITS[255];
        for (int f = 0; f < 5; f++)
            for (int what = 0; what < 7; what++) due("function(" + f + ", " + what + ")", x.function(f, what), due[f][what]);
        x.base(20);
        due("function(2, 6)", x.function(2, 6), 1);
        due("function(4, 6)", x.function(4, 6), 1);
        due("function(0, 6)", x.function(0, 6), NONE);
        for (int what : new int[] {-1, 7, LEAST, GREATEST}) {
            due("function(0, " + what + ")", x.function(0, what), OUTSIDE);
            due("function(5, " + what + ")", x.function(5, what), UNKNOWN);
        }
        for (int f : new int[] {-1, 5, 6, LEAST, GREATEST}) due("function(" + f + ", 0)", x.function(f, 0), UNKNOWN);
    }

    private static void fails() {
        promise = 7;
        int[][] due = {
            {255, 0, NONE, NONE, 0, NONE, NONE, NONE, NONE, 0, 0, NONE, NONE},
            {0, NONE, 7, NONE, 0, NONE, NONE, NONE, NONE, NONE, NONE, 7, 7},
            {150, NONE, NONE, 11, NONE, NONE, 10, 10, 1, 10, 74, 29, 29},
            {232, NONE, NONE, NONE, NONE, 3, 29, 10, 1, NONE, 238, NONE, 84},
            {15, 0, 7, 4, NONE, NONE, 4, 4, NONE, 0, 0, 39, 295},
            {10, NONE, 7, 13, 0, 5, 13, 12, 2, NONE, NONE, 7, 7},
            {240, NONE, NONE, NONE, NONE, NONE, NONE, NONE, NONE, NONE, NONE, NONE, NONE}};
        for (int[] row : due) {
            YesNoClones x = Objects.with(row[0]);
            for (int trait = 0; trait < 12; trait++)
                due(row[0] + " fails(0, " + trait + ")", x.fails(0, trait), row[trait + 1]);
        }
        for (int code = 0; code < 256; code++) {
            YesNoClones x = Objects.with(code);
            for (int trait = 0; trait < 12; trait++)
                due(code + " fails(0, " + trait + ")", x.fails(0, trait), Plain.fail(code, trait));
        }
        YesNoClones x = Objects.with(1);
        for (int t : new int[] {-1, 12, LEAST, GREATEST}) due("fails(0, " + t + ")", x.fails(0, t), UNKNOWN);
        for (int f : new int[] {-1, 1, LEAST, GREATEST}) due("fails(" + f + ", 0)", x.fails(f, 0), UNKNOWN);
    }

    private static void cost() {
        promise = 8;
        YesNoClones x = Objects.with(232, 63, 3);
        x.base(7);
        int[][] due = {{240, 0, NONE, NONE, NONE, NONE, 1}, {232, 1, 0, 170, 204, 240, 4}, {63, 1, 1, 204, 240, NONE, 3},
            {15, 1, 1, 240, 240, NONE, 3}, {3, 1, 2, 204, 240, NONE, 3}};
        for (int[] row : due)
            for (int what = 0; what < 6; what++) due("cost(" + row[0] + ", " + what + ")", x.cost(row[0], what), row[what + 1]);
        // what hangs on c alone has three parts, a constant none
        x = Objects.with(85, 255, 51);
        x.base(7);
        int[][] more = {{15, 1, 0, 170, 170, 240, 4}, {85, 1, 0, 170, 170, 170, 4}, {255, 1, 1, NONE, NONE, NONE, 1},
            {0, 2, 0, 170, 170, 255, 4}, {100, NONE, NONE, NONE, NONE, NONE, NONE}};
        for (int[] row : more)
            for (int what = 0; what < 6; what++) due("cost(" + row[0] + ", " + what + ")", x.cost(row[0], what), row[what + 1]);
        x.base(4);
        due("cost(15, 1)", x.cost(15, 1), 2);
        due("cost(15, 2)", x.cost(15, 2), 170);
        due("cost(15, 3)", x.cost(15, 3), 240);
        due("cost(15, 4)", x.cost(15, 4), NONE);
        due("cost(255, 0)", x.cost(255, 0), NONE);
        for (int n : new int[] {-1, 256, LEAST, GREATEST}) due("cost(" + n + ", 0)", x.cost(n, 0), OUTSIDE);
        for (int n : new int[] {-1, 6, LEAST, GREATEST}) due("cost(0, " + n + ")", x.cost(0, n), OUTSIDE);
        x.turn(0);
        x.take(0);
        due("cost(15, 1) of the base moved", x.cost(15, 1), 1);
    }

    private static void spell() {
        promise = 9;
        YesNoClones x = Objects.with(63);
        String[] none = {"a", "b", "c"};
        for (int v = 0; v < 3; v++) due("spell", x.spell(new int[] {240, 204, 170}[v], 0), none[v].charAt(0));
        due("spell(15, 0)", x.spell(15, 0), NONE);
        x.base(1);
        String and = "AAbaAba";
        for (int k = 0; k < 7; k++) due("spell(192, " + k + ")", x.spell(192, k), and.charAt(k));
        due("spell(192, 7)", x.spell(192, 7), NONE);
        due("spell(192, most)", x.spell(192, GREATEST), NONE);
        // where each function has three parts, what is spelled can be told
        YesNoClones y = Objects.with(127, 202);
        y.base(3);
        StringBuilder text = new StringBuilder();
        for (int k = 0; k < y.cost(150, 5); k++) text.append((char) y.spell(150, k));
        due("letters of " + text, y.cost(150, 5), 3 * y.cost(150, 0) + 1);
        due("tell " + text, tell(y, text.toString()), 2);
        due("its code", y.function(2, 0), 150);
        for (int n : new int[] {-1, 256, LEAST, GREATEST}) due("spell(" + n + ", 0)", x.spell(n, 0), OUTSIDE);
        due("spell(0, -1)", x.spell(0, -1), OUTSIDE);
        due("spell(0, least)", x.spell(0, LEAST), OUTSIDE);
    }

    private static void costing() {
        promise = 10;
        YesNoClones x = Objects.with(63);
        due("costing(0)", x.costing(0), 3);
        due("costing(1)", x.costing(1), 0);
        x.base(1);
        int all = 0;
        for (int n = 0; n <= 14; n++) all += x.costing(n);
        due("all of them", all, 256);
        due("costing(1)", x.costing(1), 6);
        due("costing(2)", x.costing(2), 10);
        due("costing(14)", x.costing(14) > 0 ? 1 : 0, 1);
        due("costing(15)", x.costing(15), 0);
        due("costing(9999)", x.costing(9999), 0);
        due("costing(most)", x.costing(GREATEST), 0);
        due("costing(-1)", x.costing(-1), OUTSIDE);
        due("costing(least)", x.costing(LEAST), OUTSIDE);
    }

    private static void place() {
        promise = 11;
        YesNoClones x = new YesNoClones();
        int[][] due = {{0, 0, 256, 0, 5, 1}, {1, 1, 128, 1, 4, 1}, {3, 3, 64, 2, 4, 1}, {45, 4095, 3, 3, 0, 0}};
        due[3][3] = x.place(45, 2);
        for (int[] row : due)
            for (int what = 0; what < 5; what++) due("place(" + row[0] + ", " + what + ")", x.place(row[0], what), row[what + 1]);
        for (int k = 0; k < 46; k++)
            for (int what = 0; what < 5; what++) due("place(" + k + ", " + what + ")", x.place(k, what), new Plain().place(k, what));
        for (int what : new int[] {-1, 5, LEAST, GREATEST}) {
            due("place(0, " + what + ")", x.place(0, what), OUTSIDE);
            due("place(46, " + what + ")", x.place(46, what), UNKNOWN);
        }
        for (int k : new int[] {-1, 46, LEAST, GREATEST}) due("place(" + k + ", 0)", x.place(k, 0), UNKNOWN);
    }

    private static void above() {
        promise = 12;
        YesNoClones x = new YesNoClones();
        due("above(3, 0)", x.above(3, 0), 1);
        due("above(3, 1)", x.above(3, 1), 2);
        due("above(3, 2)", x.above(3, 2), NONE);
        due("above(3, most)", x.above(3, GREATEST), NONE);
        due("above(0, 0)", x.above(0, 0), NONE);
        for (int k = 0; k < 46; k++)
            for (int i = 0; i < 7; i++) due("above(" + k + ", " + i + ")", x.above(k, i), new Plain().above(k, i));
        for (int k : new int[] {-1, 46, LEAST, GREATEST}) {
            due("above(" + k + ", 0)", x.above(k, 0), UNKNOWN);
            due("above(" + k + ", -1)", x.above(k, -1), UNKNOWN);
        }
        due("above(0, -1)", x.above(0, -1), OUTSIDE);
        due("above(0, least)", x.above(0, LEAST), OUTSIDE);
    }

    private static void below() {
        promise = 13;
        YesNoClones x = new YesNoClones();
        int[] due = {1, 2, 4, 8, 10, NONE};
        due[3] = x.below(0, 3);
        for (int i = 0; i < 6; i++) due("below(0, " + i + ")", x.below(0, i), due[i]);
        due("below(0, most)", x.below(0, GREATEST), NONE);
        due("below(45, 0)", x.below(45, 0), NONE);
        for (int k = 0; k < 46; k++)
            for (int i = 0; i < 7; i++) due("below(" + k + ", " + i + ")", x.below(k, i), new Plain().below(k, i));
        for (int k : new int[] {-1, 46, LEAST, GREATEST}) {
            due("below(" + k + ", 0)", x.below(k, 0), UNKNOWN);
            due("below(" + k + ", -1)", x.below(k, -1), UNKNOWN);
        }
        due("below(0, -1)", x.below(0, -1), OUTSIDE);
        due("below(0, least)", x.below(0, LEAST), OUTSIDE);
    }

    private static void meetAndJoin() {
        for (int k = 0; k < 46; k++) {
            YesNoClones x = new YesNoClones();
            for (int l = 0; l < 46; l++) {
                promise = 14;
                due("meet(" + k + ", " + l + ")", x.meet(k, l), new Plain().meet(k, l));
                promise = 15;
                due("join(" + k + ", " + l + ")", x.join(k, l), new Plain().join(k, l));
            }
        }
        YesNoClones x = new YesNoClones();
        for (int n : new int[] {-1, 46, LEAST, GREATEST}) {
            promise = 14;
            due("meet(" + n + ", 0)", x.meet(n, 0), UNKNOWN);
            due("meet(0, " + n + ")", x.meet(0, n), UNKNOWN);
            promise = 15;
            due("join(" + n + ", 0)", x.join(n, 0), UNKNOWN);
            due("join(0, " + n + ")", x.join(0, n), UNKNOWN);
        }
        promise = 14;
        due("meet(1, 2)", x.meet(1, 2), 3);
        due("meet(45, 0)", x.meet(45, 0), 45);
        promise = 15;
        due("join(1, 2)", x.join(1, 2), 0);
        due("join(45, 7)", x.join(45, 7), 7);
    }

    private static void relation() {
        promise = 16;
        YesNoClones x = new YesNoClones();
        int[][] due = {{1, 0, 256, 0}, {1, 1, 128, 1}, {1, 2, 128, 2}, {1, 3, 256, 0}, {2, 11, 20, 4}, {2, 6, 16, 8}, {2, 13, 20, 4},
            {2, 9, 256, 0}, {2, 15, 256, 0}, {3, 105, 8, 11}, {3, 127, 38, 26}, {3, 255, 256, 0}, {3, 0, 256, 0}, {3, 129, 256, 0}};
        for (int[] row : due)
            for (int what = 0; what < 2; what++)
                due("relation(" + row[0] + ", " + row[1] + ", " + what + ")", x.relation(row[0], row[1], what), row[what + 2]);
        for (int rows = 0; rows < 256; rows++) {
            YesNoClones y = new YesNoClones();
            for (int what = 0; what < 2; what++)
                due("relation(3, " + rows + ", " + what + ")", y.relation(3, rows, what), new Plain().relation(3, rows, what));
        }
        int[][] outside = {{0, 0}, {4, 0}, {-1, 0}, {LEAST, 0}, {GREATEST, 0}, {32, 0}, {33, 0}, {1, 4}, {2, 16}, {3, 256}, {1, -1},
            {3, -1}, {3, LEAST}, {3, GREATEST}};
        for (int[] row : outside) due("relation(" + row[0] + ", " + row[1] + ", 0)", x.relation(row[0], row[1], 0), OUTSIDE);
        for (int what : new int[] {-1, 2, LEAST, GREATEST}) due("relation(1, 1, " + what + ")", x.relation(1, 1, what), OUTSIDE);
    }

    private static void keeps() {
        promise = 17;
        YesNoClones x = Objects.with(232, 63);
        due("keeps(0, 1, 1)", x.keeps(0, 1, 1), 1);
        due("keeps(1, 1, 1)", x.keeps(1, 1, 1), 0);
        due("keeps(0, 2, 11)", x.keeps(0, 2, 11), 1);
        due("keeps(1, 2, 11)", x.keeps(1, 2, 11), 0);
        due("keeps(0, 3, 105)", x.keeps(0, 3, 105), 0);
        due("keeps(1, 3, 0)", x.keeps(1, 3, 0), 1);
        due("keeps(1, 3, 255)", x.keeps(1, 3, 255), 1);
        for (int f : new int[] {-1, 2, LEAST, GREATEST}) {
            due("keeps(" + f + ", 1, 1)", x.keeps(f, 1, 1), UNKNOWN);
            due("keeps(" + f + ", 0, 1)", x.keeps(f, 0, 1), UNKNOWN);
        }
        int[][] outside = {{0, 0}, {4, 0}, {LEAST, 0}, {1, 4}, {2, 16}, {3, 256}, {1, -1}, {3, LEAST}, {2, GREATEST}};
        for (int[] row : outside) due("keeps(0, " + row[0] + ", " + row[1] + ")", x.keeps(0, row[0], row[1]), OUTSIDE);
    }

    private static void put() {
        promise = 18;
        YesNoClones x = Objects.with(202, 240, 204, 170);
        due("put(0, 2, 3, 1)", x.put(0, 2, 3, 1), 4);
        due("its code", x.function(4, 0), 204 & 170 | ~204 & 240);
        for (int i = 0; i < 4; i++)
            for (int n : new int[] {-1, 5, LEAST, GREATEST})
                due("put of " + n, x.put(i == 0 ? n : 0, i == 1 ? n : 0, i == 2 ? n : 0, i == 3 ? n : 0), UNKNOWN);
        due("put(4, 4, 4, 4)", x.put(4, 4, 4, 4), 5);
        due("put(0, 0, 0, 0) of six", x.put(0, 0, 0, 0), FULL);
        due("put(0, 0, 0, 6) of six", x.put(0, 0, 0, 6), UNKNOWN);
        due("undo(1)", x.undo(1), 5);
    }

    private static void turn() {
        promise = 19;
        YesNoClones x = Objects.with(128, 15);
        due("turn(0)", x.turn(0), 254);
        due("function(0, 0)", x.function(0, 0), 254);
        due("turn(1)", x.turn(1), 15);
        due("told(12)", x.told(12), 4);
        due("undo(2)", x.undo(2), 2);
        due("function(0, 0)", x.function(0, 0), 128);
        for (int f : new int[] {-1, 2, LEAST, GREATEST}) due("turn(" + f + ")", x.turn(f), UNKNOWN);
        x.base(1);
        due("told(3)", x.told(3), Plain.TRAITS[128]);
        due("cost(128, 0)", x.cost(128, 0), 1);
        x.turn(0);
        due("told(3)", x.told(3), Plain.TRAITS[254]);
        due("cost(128, 0)", x.cost(128, 0), NONE);
        due("cost(254, 0)", x.cost(254, 0), 1);
    }

    private static void take() {
        promise = 20;
        YesNoClones x = Objects.with(10, 11, 12, 13, 14, 15);
        x.base(0b101101);
        due("take(2)", x.take(2), 5);
        due("told(2)", x.told(2), 0b10101);
        due("function(2, 0)", x.function(2, 0), 13);
        due("take(0)", x.take(0), 4);
        due("told(2)", x.told(2), 0b1010);
        due("take(0)", x.take(0), 3);
        due("told(2)", x.told(2), 0b101);
        due("take(2)", x.take(2), 2);
        due("told(2)", x.told(2), 1);
        due("function(0, 0)", x.function(0, 0), 13);
        due("function(1, 0)", x.function(1, 0), 14);
        for (int f : new int[] {-1, 2, LEAST, GREATEST}) due("take(" + f + ")", x.take(f), UNKNOWN);
        due("undo(2)", x.undo(2), 4);
        due("told(2)", x.told(2), 0b1010);
        x.take(0);
        x.take(0);
        x.take(0);
        due("take(0)", x.take(0), 0);
        due("take(0)", x.take(0), UNKNOWN);
        due("told(3)", x.told(3), 4095);
    }

    private static void base() {
        promise = 21;
        YesNoClones x = Objects.with(232, 150);
        due("base(0)", x.base(0), 4095);
        due("base(3)", x.base(3), 11);
        due("base(1)", x.base(1), 1295);
        for (int set : new int[] {4, 5, 64, -1, LEAST, GREATEST}) due("base(" + set + ")", x.base(set), UNKNOWN);
        due("told(2)", x.told(2), 1);
        x.drift(1);
        due("told(2)", x.told(2), 1);
        due("base(7)", x.base(7) & ~11, 0);
        due("told(12)", x.told(12), 7);
    }

    private static void drift() {
        promise = 22;
        YesNoClones x = new YesNoClones();
        for (int n : new int[] {0, -1, 7, LEAST, GREATEST}) due("drift(" + n + ")", x.drift(n), OUTSIDE);
        due("drift(3)", x.drift(3), 3);
        int[] codes = {0, 220, 4};
        for (int f = 0; f < 3; f++) due("function(" + f + ", 0)", x.function(f, 0), codes[f]);
        due("told(12)", x.told(12), 3);
        due("drift(6)", x.drift(6), 6);
        due("told(12)", x.told(12), 6);
        int seed = x.seed(5);
        x.seed(seed);
        due("drift(1) of six", x.drift(1), 6);
        due("told(12)", x.told(12), 6);
        due("no draw", x.seed(0), seed);
        x = new YesNoClones();
        x.seed(GREATEST);
        x.drift(1);
        due("the seed behind the greatest", x.seed(0), (int) ((GREATEST * 1103515245L + 12345) % (1L << 31)));
        for (int code = 0; code < 256; code++) due("a drawn code", Objects.with(code).function(0, 0), code);
    }

    private static void undo() {
        promise = 23;
        YesNoClones x = Objects.with(1, 2, 3);
        for (int n : new int[] {0, -1, 17, LEAST, GREATEST}) due("undo(" + n + ")", x.undo(n), OUTSIDE);
        due("undo(4)", x.undo(4), NOT);
        due("told(12)", x.told(12), 3);
        x.base(5);
        x.base(5);
        due("told(12)", x.told(12), 5);
        due("undo(1)", x.undo(1), 3);
        due("told(2)", x.told(2), 5);
        due("undo(1)", x.undo(1), 3);
        due("told(2)", x.told(2), 0);
        x.seed(9);
        x.write(3, 3);
        x.feed(1);
        due("undo(2)", x.undo(2), 1);
        due("seed(0)", x.seed(0), 9);
        due("told(10)", x.told(10), 1);
        due("told(1)", x.told(1), 1);
        for (int i = 0; i < 20; i++) x.base(i % 2);
        due("told(12)", x.told(12), 16);
        due("told(2)", x.told(2), 1);
        due("undo(15)", x.undo(15), 1);
        due("told(2)", x.told(2), 0);
        due("undo(2)", x.undo(2), NOT);
        due("undo(1)", x.undo(1), 1);
        due("told(2)", x.told(2), 1);
        due("undo(1)", x.undo(1), NOT);
        x.base(9);
        x.take(7);
        x.put(0, 0, 0, 9);
        x.tell();
        due("what was refused", x.told(12), 0);
        Objects.type(x, "Aabc").tell();
        due("told(12)", x.told(12), 1);
        for (int i = 0; i < 40; i++) x.turn(0);
        due("undo(16)", x.undo(16), 2);
        due("told(12)", x.told(12), 0);
    }

    private static void write() {
        promise = 24;
        YesNoClones x = new YesNoClones();
        for (int n : new int[] {-1, 256, LEAST, GREATEST}) due("write(" + n + ", 0)", x.write(n, 0), OUTSIDE);
        due("told(11)", x.told(11), NONE);
        due("write(240, 0)", x.write(240, 0), 1);
        due("write(0, -1)", x.write(0, -1), 2);
        due("told(11)", x.told(11), NONE);
        due("write(255, least)", x.write(255, LEAST), 3);
        due("told(11)", x.told(11), 2);
        due("write(255, most)", x.write(255, GREATEST), 4);
        for (int n = 5; n <= 20; n++) due("write", x.write(n, n), n);
        due("write of 20", x.write(1, 1), FULL);
        due("write(256, 1) of 20", x.write(256, 1), OUTSIDE);
        due("told(10)", x.told(10), 20);
    }

    private static void tear() {
        promise = 25;
        YesNoClones x = new YesNoClones();
        due("tear()", x.tear(), 0);
        for (int n = 1; n <= 20; n++) x.write(1, 1);
        due("told(11)", x.told(11), 0);
        due("tear()", x.tear(), 20);
        due("told(10)", x.told(10), 0);
        due("told(11)", x.told(11), NONE);
        due("write(170, 0)", x.write(170, 0), 1);
        due("told(11)", x.told(11), NONE);
    }

    private static void seed() {
        promise = 26;
        YesNoClones x = new YesNoClones();
        due("seed(-1)", x.seed(-1), OUTSIDE);
        due("seed(least)", x.seed(LEAST), OUTSIDE);
        due("seed(most)", x.seed(GREATEST), 0);
        due("seed(0)", x.seed(0), GREATEST);
        x.drift(1);
        due("seed(1)", x.seed(1), 12345);
        due("told(12)", x.told(12), 1);
    }

    private static void keepAndGoBack() {
        YesNoClones x = Objects.with(1, 2);
        for (int i : new int[] {-1, 2, LEAST, GREATEST}) {
            promise = 27;
            due("keep(" + i + ")", x.keep(i), UNKNOWN);
            promise = 28;
            due("goBack(" + i + ")", x.goBack(i), UNKNOWN);
        }
        promise = 28;
        due("goBack(0)", x.goBack(0), NOT);
        due("told(12)", x.told(12), 2);
        promise = 27;
        x.base(2);
        x.seed(77);
        x.write(1, 1);
        x.feed('a');
        due("keep(1)", x.keep(1), 1);
        due("told(12)", x.told(12), 0);
        due("undo(1)", x.undo(1), NOT);
        due("told(0)", x.told(0), 2);
        due("told(1)", x.told(1), 1);
        promise = 28;
        due("goBack(0)", x.goBack(0), NOT);
        x.turn(0);
        x.take(1);
        x.seed(3);
        x.tear();
        x.feed('b');
        due("goBack(1)", x.goBack(1), 1);
        due("told(12)", x.told(12), 0);
        due("told(0)", x.told(0), 2);
        due("told(2)", x.told(2), 2);
        due("function(0, 0)", x.function(0, 0), 1);
        due("function(1, 0)", x.function(1, 0), 2);
        due("told(10)", x.told(10), 0);
        due("told(1)", x.told(1), 2);
        due("seed(5)", x.seed(5), 77);
        x.take(0);
        promise = 27;
        due("keep(0)", x.keep(0), 1);
        x.take(0);
        due("keep(1)", x.keep(1), 1);
        promise = 28;
        due("goBack(0)", x.goBack(0), 1);
        due("told(0)", x.told(0), 1);
        due("goBack(1)", x.goBack(1), 1);
        due("told(0)", x.told(0), 0);
        due("told(2)", x.told(2), 0);
        x.drift(6);
        due("goBack(0)", x.goBack(0), 1);
        due("told(0)", x.told(0), 1);
        due("told(2)", x.told(2), 1);
        due("function(0, 0)", x.function(0, 0), 2);
        due("undo(1)", x.undo(1), NOT);
    }

    public static void main(String[] args) {
        newObject();
        feed();
        tell();
        faults();
        told();
        function();
        fails();
        cost();
        spell();
        costing();
        place();
        above();
        below();
        meetAndJoin();
        relation();
        keeps();
        put();
        turn();
        take();
        base();
        drift();
        undo();
        write();
        tear();
        seed();
        keepAndGoBack();
        System.out.println("PromisesTest: " + rows + " answers, " + wrong + " wrong");
        if (wrong > 0) System.exit(1);
    }
}
