import java.io.IOException;
import java.util.ArrayList;
import java.util.Arrays;
import java.util.List;
import java.util.TreeSet;

/** The sentences ahead of the promises that name an edge, each by itself. */
public final class TermsTest {
    private static final int NONE = -1, UNKNOWN = -1000000001, OUTSIDE = -1000000002, NOT = -1000000003, FULL = -1000000004;
    private static final int A = 240, B = 204, C = 170;
    private static Sentences doc;

    private static YesNoClones based(int set, int... codes) {
        YesNoClones x = Objects.with(codes);
        x.base(set);
        return x;
    }

    private static int all(int... codes) {
        return (1 << codes.length) - 1;
    }

    private static int tell(YesNoClones x, String text) {
        return Objects.type(x, text).tell();
    }

    private static void codes(String name, YesNoClones x, int... codes) {
        doc.due("told(0) " + name, x.told(0), codes.length);
        for (int f = 0; f < codes.length; f++) doc.due("function(" + f + ", 0) " + name, x.function(f, 0), codes[f]);
    }

    private static String spelled(YesNoClones x, int code) {
        StringBuilder text = new StringBuilder();
        for (int k = 0; x.spell(code, k) != NONE && k < 300; k++) text.append((char) x.spell(code, k));
        return text.toString();
    }

    // ---- numbers

    private static void calls() {
        doc.says(0, "An object is used for at most 512 calls after it has been made");
        YesNoClones x = new YesNoClones();
        doc.due("drift(6)", x.drift(6), 6);
        for (int i = 0; i < 255; i++) {
            doc.due("turn(1)", x.turn(1), i % 2 == 0 ? 196 : 220);
            doc.due("base", x.base(i % 2 * 2), i % 2 == 0 ? 4095 : Plain.TRAITS[220]);
        }
        doc.due("call 512, told(12)", x.told(12), 16);
        YesNoClones y = based(0, 63, 127);
        int nand3 = new Plain.Made(2, List.of(63, 127)).greatest;
        for (int i = 0; i < 252; i++) {
            y.base(1 + i % 2);
            doc.due("told(6)", y.told(6), i % 2 == 0 ? 14 : nand3);
        }
        doc.due("call 512, told(5)", y.told(5), 256);
    }

    private static void fromNought() {
        doc.says(0, "What has a number has it from 0 on.");
        YesNoClones x = new YesNoClones();
        x.feed('x');
        doc.due("tell of x", x.tell(), -11);
        doc.due("fault()", x.fault(), 0);
        doc.due("tell of a", tell(x, "a"), 0);
        doc.due("function(0, 0)", x.function(0, 0), A);
        doc.due("fails(0, 0)", x.fails(0, 0), NONE);
        doc.due("place(0, 0)", x.place(0, 0), 0);
        doc.due("spell(240, 0)", x.spell(A, 0), 'a');
        x.write(A, 1);
        doc.due("told(11)", x.told(11), 0);
        doc.due("keep(0)", x.keep(0), 1);
        doc.due("base(1)", x.base(1), 4095);
        doc.due("told(2)", x.told(2), 1);
    }

    private static void sets() {
        doc.says(0, "A SET is a whole number, bit k for k.");
        YesNoClones x = Objects.with(255, 0, 15, 240, 1, 232);
        for (int f = 0; f < 6; f++) {
            doc.due("base", x.base(1 << f), Plain.TRAITS[x.function(f, 0)]);
            doc.due("told(2)", x.told(2), 1 << f);
        }
        doc.due("base(63)", x.base(63), 0);
        doc.due("base(0)", x.base(0), 4095);
        doc.due("base(8)", x.base(8), 4095);
        doc.due("base(32)", x.base(32), 1 | 2 | 4 | 8 | 1 << 8 | 1 << 10);
    }

    private static void constants() {
        doc.says(0, "NONE is -1.");
        doc.due("NONE", YesNoClones.NONE, -1);
        doc.says(0, "They are far below all that is counted: -1000000001 and on.");
        doc.due("UNKNOWN", YesNoClones.UNKNOWN, -1000000001);
        doc.due("OUTSIDE", YesNoClones.OUTSIDE, -1000000002);
        doc.due("NOT", YesNoClones.NOT, -1000000003);
        doc.due("FULL", YesNoClones.FULL, -1000000004);
    }

    // ---- functions

    private static void codesAndPoints() {
        doc.says(0, "POINT p: variable a is bit 2 of p, b is bit 1, c is bit 0. CODE (0 .. 255): bit p is what it tells at POINT p "
            + "(so a is 240, b is 204, c is 170).");
        YesNoClones x = new YesNoClones();
        String[] texts = {"a", "b", "c", "0", "1", "!|a|bc"};
        int[] codes = {240, 204, 170, 0, 255, 1};
        for (String text : texts) tell(x, text);
        codes("of all texts", x, codes);
        for (int p = 0; p < 8; p++) {
            YesNoClones y = new YesNoClones();
            String text = "&" + ((p & 4) != 0 ? "a" : "!a") + "&" + ((p & 2) != 0 ? "b" : "!b") + ((p & 1) != 0 ? "c" : "!c");
            tell(y, text);
            doc.due(text, y.function(0, 0), 1 << p);
        }
    }

    private static void hanging() {
        doc.says(0, "It HANGS ON a variable, if it tells unlike at some two POINTS that differ in this one alone.");
        int[][] due = {{0, 0}, {255, 0}, {A, 1}, {B, 2}, {C, 4}, {15, 1}, {51, 2}, {85, 4}, {192, 3}, {160, 5}, {136, 6}, {1, 7},
            {128, 7}, {16, 7}, {150, 7}, {60, 3}, {90, 5}, {102, 6}, {3, 3}, {5, 5}, {17, 6}, {202, 7}};
        for (int[] row : due) doc.due("variables of " + row[0], Objects.with(row[0]).function(0, 1), row[1]);
    }

    private static void arity() {
        doc.says(0, "ARITY: 3, if it HANGS ON c; else 2, if on b; else 1, if on a; else 0.");
        int[][] due = {{0, 0}, {255, 0}, {A, 1}, {15, 1}, {B, 2}, {51, 2}, {192, 2}, {63, 2}, {C, 3}, {85, 3}, {160, 3}, {136, 3},
            {1, 3}, {232, 3}};
        for (int[] row : due) doc.due("arity of " + row[0], Objects.with(row[0]).function(0, 2), row[1]);
    }

    private static void turnedOver() {
        doc.says(0, "TURNED OVER: at each POINT p the other of what it told at 7 less p.");
        int[][] due = {{0, 255}, {255, 0}, {1, 127}, {127, 1}, {128, 254}, {254, 128}, {A, A}, {C, C}, {150, 150}, {192, 252}, {2, 191}};
        for (int[] row : due) {
            YesNoClones x = Objects.with(row[0]);
            doc.due("function(0, 5) of " + row[0], x.function(0, 5), row[1]);
            doc.due("turn(0) of " + row[0], x.turn(0), row[1]);
            doc.due("function(0, 0) of " + row[0], x.function(0, 0), row[1]);
        }
        for (int code = 0; code < 256; code++) doc.due("turned", Objects.with(code).turn(0), Plain.turned(code));
    }

    private static void sums() {
        doc.says(0, "POINT p is WITHIN q, if all bits of p are bits of q. SUM: the SET of POINTS such that at each POINT q the FUNCTION "
            + "tells 1 just if an odd number of them is WITHIN q.");
        int[][] due = {{0, 0}, {255, 1}, {1, 255}, {128, 128}, {A, 16}, {B, 4}, {C, 2}, {15, 17}, {150, 22}, {192, 64}, {254, 254}, {2, 170}};
        for (int[] row : due) doc.due("sum of " + row[0], Objects.with(row[0]).function(0, 3), row[1]);
        for (int code = 0; code < 256; code++) doc.due("sum of " + code, Objects.with(code).function(0, 3), Plain.sum(code));
    }

    // ---- the shelf and formulas

    private static void shelf() {
        doc.says(0, "THE SHELF: FUNCTIONS (6 at most, perhaps alike), numbered as they came; if one goes, later ones have one number less.");
        YesNoClones x = new YesNoClones();
        for (int n = 0; n < 6; n++) doc.due("tell of b", tell(x, "b"), n);
        codes("of six alike", x, B, B, B, B, B, B);
        doc.due("a seventh by tell()", tell(x, "b"), FULL);
        doc.due("a seventh by put()", x.put(0, 0, 0, 0), FULL);
        doc.due("a seventh by drift()", x.drift(1), 6);
        codes("of six", x, B, B, B, B, B, B);
        int[][] left = {{2, 3, 4, 5, 6}, {1, 3, 4, 5, 6}, {1, 2, 4, 5, 6}, {1, 2, 3, 5, 6}, {1, 2, 3, 4, 6}, {1, 2, 3, 4, 5}};
        for (int f = 0; f < 6; f++) {
            YesNoClones y = Objects.with(1, 2, 3, 4, 5, 6);
            doc.due("take(" + f + ")", y.take(f), 5);
            codes("behind take(" + f + ")", y, left[f]);
            doc.due("function(5, 0)", y.function(5, 0), UNKNOWN);
            doc.due("the next one", tell(y, "1"), 5);
        }
    }

    private static void putOn() {
        doc.says(0, "F PUT ON x, y, z: at each POINT it tells what F tells where a, b, c are what x, y, z tell at that POINT.");
        int[][] due = {{0, 1, 2, 3, 202}, {0, 3, 2, 1, 216}, {0, 4, 2, 3, B}, {0, 1, 4, 4, 255}, {4, 1, 2, 3, 255}, {4, 4, 4, 4, 255},
            {0, 0, 0, 0, 202}, {0, 1, 1, 1, A}, {1, 3, 2, 2, C}, {3, 1, 1, 2, B}};
        for (int[] row : due) {
            YesNoClones x = Objects.with(202, A, B, C, 255);
            doc.due(Arrays.toString(row), x.put(row[0], row[1], row[2], row[3]), 5);
            doc.due(Arrays.toString(row), x.function(5, 0), row[4]);
        }
    }

    private static void lettersByThemselves() {
        doc.says(0, "'0', '1', 'a', 'b', 'c' by themselves");
        for (int letter = 0; letter < 256; letter++) {
            YesNoClones x = new YesNoClones();
            x.feed(letter);
            boolean whole = "01abc".indexOf(letter) >= 0, open = "!&|^=>?m".indexOf(letter) >= 0, function = letter >= 'A' && letter <= 'F';
            doc.due("tell of letter " + letter, x.tell(), whole ? 0 : open ? -14 : function ? -12 : -11);
            doc.due("fault of letter " + letter, x.fault(), whole ? NONE : open ? 1 : 0);
            doc.due("functions", x.told(0), whole ? 1 : 0);
        }
    }

    private static void binding(String words, String letters, int bound) {
        doc.says(0, words);
        for (char letter : letters.toCharArray()) {
            for (int n = 0; n <= 4; n++) {
                YesNoClones x = Objects.with(232, 232, 232, 232, 232);
                int due = n < bound ? -14 : n == bound ? 5 : -13;
                doc.due("tell of " + letter + " and " + n, tell(x, letter + "abc1".substring(0, n)), due);
                doc.due("fault of " + letter + " and " + n, x.fault(), n < bound ? n + 1 : n == bound ? NONE : bound + 1);
            }
        }
    }

    private static void meanings() {
        String[] words = {"behind '!' one (the other of it)", "'&' (both)", "'|' (one at least)", "'^' (they are unlike)",
            "'=' (they are alike)", "'>' (0 just if the first is 1 and the second 0)", "'?' three (the second, if the first is 1, else the third)",
            "'m' three (1, if two of them at least are)"};
        String letters = "!&|^=>?m";
        int[] bounds = {1, 2, 2, 2, 2, 2, 3, 3};
        String[] tables = {"10", "0001", "0111", "0110", "1001", "1101", "01010011", "00010111"};
        for (int i = 0; i < words.length; i++) {
            doc.says(0, words[i]);
            for (int row = 0; row < tables[i].length(); row++) {
                StringBuilder text = new StringBuilder().append(letters.charAt(i));
                for (int j = bounds[i] - 1; j >= 0; j--) text.append(row >> j & 1);
                YesNoClones x = new YesNoClones();
                tell(x, text.toString());
                doc.due("tell of " + text, x.function(0, 0), tables[i].charAt(row) == '1' ? 255 : 0);
            }
        }
    }

    private static void shelfLetters() {
        doc.says(0, "behind 'A' .. 'F' three: FUNCTION 0 .. 5 of THE SHELF PUT ON these.");
        int[] codes = {1, 2, 4, 8, 16};
        for (int f = 0; f < 5; f++) {
            YesNoClones x = Objects.with(codes);
            doc.due("tell of " + (char) ('A' + f), tell(x, (char) ('A' + f) + "abc"), 5);
            doc.due("its code", x.function(5, 0), codes[f]);
        }
        YesNoClones x = Objects.with(202, 63);
        doc.due("tell of A in A", tell(x, "AAbca!cBab0"), 2);
        doc.due("its code", x.function(2, 0), Plain.put(202, Plain.put(202, B, C, A), 255 - C, 63));
        doc.due("tell of what has no say", tell(x, "Bab0"), 3);
        doc.due("its code", x.function(3, 0), 63);
    }

    private static void fault(YesNoClones x, String text, int number, int place) {
        doc.due("tell of '" + text + "'", tell(x, text), -10 - number);
        doc.due("fault of '" + text + "'", x.fault(), place);
    }

    private static void firstFault() {
        doc.says(0, "FAULTS, the first one from the left (the end at the text's length)");
        YesNoClones x = Objects.with(232);
        fault(x, "&xB", 1, 1);
        fault(x, "&Bx", 2, 1);
        fault(x, "ax", 3, 1);
        fault(x, "&ax", 1, 2);
        fault(x, "&abx", 3, 3);
        fault(x, "&aB", 2, 2);
        fault(x, "mab", 4, 3);
        fault(x, "&", 4, 1);
        fault(x, "", 4, 0);
        fault(x, "!".repeat(60), 4, 60);
        fault(x, "!".repeat(59) + "x", 1, 59);
        fault(x, "!".repeat(59) + "B", 2, 59);
        fault(x, "!".repeat(58) + "ab", 3, 59);
        fault(x, "?".repeat(20) + "a".repeat(40), 4, 60);
        fault(x, "?".repeat(19) + "a".repeat(40), 3, 58);
        doc.due("tell of a whole one of 59", tell(x, "!" + "?".repeat(19) + "a".repeat(39)), 1);
        doc.due("tell of a whole one of 60", tell(x, "!!" + "A".repeat(19) + "a".repeat(39)), 2);
        doc.due("fault()", x.fault(), NONE);
    }

    private static void strangeLetters() {
        doc.says(0, "1 a letter that is none of these (a blank, too)");
        for (int letter = 0; letter < 256; letter++) {
            if ("01abc!&|^=>?mABCDEF".indexOf(letter) >= 0) continue;
            YesNoClones x = Objects.with(1, 2, 3, 4, 5);
            x.feed('&');
            x.feed(letter);
            x.feed('a');
            doc.due("tell of letter " + letter, x.tell(), -11);
            doc.due("fault()", x.fault(), 1);
            doc.due("functions", x.told(0), 5);
        }
        fault(new YesNoClones(), " ", 1, 0);
        fault(new YesNoClones(), " a", 1, 0);
        fault(new YesNoClones(), "& ab", 1, 1);
    }

    private static void missingFunctions() {
        doc.says(0, "2 a FUNCTION that there is not");
        YesNoClones x = new YesNoClones();
        for (int n = 0; n < 6; n++) {
            for (char letter = 'A'; letter < 'A' + n; letter++) {
                fault(x, letter + "ab", 4, 3);
            }
            for (char letter = (char) ('A' + n); letter <= 'F'; letter++) {
                fault(x, letter + "abc", 2, 0);
                fault(x, "!" + letter, 2, 1);
            }
            fault(x, "Gabc", 1, 0);
            tell(x, "a");
        }
        doc.due("told(0)", x.told(0), 6);
        x.take(0);
        fault(x, "Fabc", 2, 0);
        x.undo(1);
        x.undo(2);
        fault(x, "Eabc", 2, 0);
        doc.due("tell of D", tell(x, "Dabc"), 4);
    }

    private static void behindTheEnd() {
        doc.says(0, "3 a letter, whichever, behind the end of the FORMULA");
        for (int letter = 0; letter < 256; letter++) {
            YesNoClones x = new YesNoClones();
            x.feed('a');
            x.feed(letter);
            doc.due("tell of a and letter " + letter, x.tell(), -13);
            doc.due("fault()", x.fault(), 1);
        }
    }

    private static void shortTexts() {
        doc.says(0, "4 the text ends ahead of its end");
        YesNoClones x = new YesNoClones();
        String[] texts = {"", "!", "&", "&a", "?", "?a", "?ab", "&|ab", "m!a!b", "!!", "&&&aaa"};
        for (String text : texts) fault(x, text, 4, text.length());
        doc.due("told(0)", x.told(0), 0);
    }

    // ---- traits

    /** Codes that have a trait, and behind them, in twos, codes that have it not and where they fail. */
    private static void trait(String words, int trait, int[] having, int... failing) {
        doc.says(0, words);
        for (int code : having) {
            YesNoClones x = Objects.with(code);
            doc.due(code + " fails(0, " + trait + ")", x.fails(0, trait), NONE);
            doc.due(code + " trait " + trait, x.function(0, 4) >> trait & 1, 1);
        }
        for (int i = 0; i < failing.length; i += 2) {
            YesNoClones x = Objects.with(failing[i]);
            doc.due(failing[i] + " fails(0, " + trait + ")", x.fails(0, trait), failing[i + 1]);
            doc.due(failing[i] + " trait " + trait, x.function(0, 4) >> trait & 1, 0);
        }
        for (int code = 0; code < 256; code += 2) {
            YesNoClones x = Objects.with(code, code + 1);
            doc.due(code + " fails(0, " + trait + ")", x.fails(0, trait), Plain.fail(code, trait));
            doc.due(code + 1 + " fails(1, " + trait + ")", x.fails(1, trait), Plain.fail(code + 1, trait));
        }
    }

    private static void firstTraits() {
        trait("TRAIT 0, if it tells 0 at POINT 0", 0, new int[] {0, 254, 2, 128, A}, 1, 0, 255, 0, 127, 0, 15, 0);
        trait("1, if it tells 1 at POINT 7", 1, new int[] {128, 255, 129, A}, 0, 7, 127, 7, 64, 7, 15, 7);
        trait("2, if it never tells 1 at p and 0 at q with p WITHIN q", 2, new int[] {0, 255, 128, 254, 232, A}, 1, 1, 2, 11, 64, 55,
            127, 7, 253, 1, 32, 47, 16, 37);
        trait("3, if it tells unlike at p and at 7 less p, for all p", 3, new int[] {A, 15, B, C, 150, 105, 232, 23}, 0, 0, 255, 0,
            192, 2, 224, 3, 248, 3, 128, 1);
        trait("4, if SUM has no POINTS but 0, 1, 2, 4", 4, new int[] {0, 255, A, 15, 60, 150, 105}, 136, 3, 160, 5, 192, 6, 128, 7,
            1, 3, 127, 7, 232, 3);
    }

    private static void laterTraits() {
        trait("5, if at the POINT of the bits that are in both p and q it tells 1 just if it does at p and at q, for all p, q", 5,
            new int[] {0, 255, 128, 136, 192, A}, 1, 1, 64, 55, 252, 20, 254, 10, 15, 4);
        trait("6, if at the POINT of the bits that are in p or q it tells 1 just if it does at p or at q, for all", 6,
            new int[] {0, 255, 254, 252, 238, A}, 1, 1, 128, 14, 192, 20, 15, 4, 136, 10, 127, 7);
        trait("7, if it HANGS ON one variable at most", 7, new int[] {0, 255, A, B, C, 15, 51, 85}, 192, 1, 160, 2, 136, 10, 128, 1,
            150, 1, 102, 10);
        trait("8, if any two POINTS (perhaps the same) at which it tells 1 have a bit in common", 8,
            new int[] {0, 2, 4, 16, 128, 232, 104, A}, 1, 0, 255, 0, 6, 10, 24, 28, 66, 14, 36, 21, 18, 12);
        trait("9, if all POINTS at which it tells 1 have a bit in common (so, too, if there are none)", 9, new int[] {0, 128, 2, 192, A},
            1, 0, 255, 0, 232, 238, 104, 238, 6, 74, 24, 220);
        trait("10, if any two POINTS (perhaps the same) at which it tells 0 lack a bit in common", 10,
            new int[] {255, 254, 232, 253, A}, 127, 63, 0, 7, 126, 7, 128, 14, 231, 28, 189, 14, 135, 28);
        trait("11, if all POINTS at which it tells 0 lack a bit in common (so, too, if there are none)", 11,
            new int[] {255, 254, 252, 253, A}, 127, 511, 0, 7, 232, 84, 233, 84, 231, 220, 128, 14);
    }

    /** Threes of a code, a trait that it has not, and where it fails: the least and the greatest places there are. */
    private static void failing(String words, int... threes) {
        doc.says(0, words);
        for (int i = 0; i < threes.length; i += 3)
            doc.due(threes[i] + " fails(0, " + threes[i + 1] + ")", Objects.with(threes[i]).fails(0, threes[i + 1]), threes[i + 2]);
    }

    private static void placesOfFails() {
        failing("of a TRAIT that it has not: 0: 0. 1: 7.", 1, 0, 0, 255, 0, 0, 0, 1, 7, 127, 1, 7);
        failing("2, 5, 6: the least 8 p and q (p, q as told).", 1, 2, 1, 64, 2, 55, 32, 2, 47, 1, 5, 1, 64, 5, 55, 1, 6, 1, 127, 6, 7,
            143, 6, 4, 233, 5, 1);
        failing("3: the least p.", 0, 3, 0, 255, 3, 0, 192, 3, 2, 224, 3, 3, 248, 3, 3, 128, 3, 1);
        failing("4: the least POINT of SUM other than these.", 136, 4, 3, 8, 4, 3, 160, 4, 5, 192, 4, 6, 128, 4, 7);
        failing("7: 8 times the first variable on which it HANGS (a 0, b 1, c 2), and the next one.", 192, 7, 1, 160, 7, 2, 136, 7, 10,
            128, 7, 1, 60, 7, 1, 90, 7, 2, 102, 7, 10);
        failing("8, 10: the least 8 p and q, p no more than q.", 1, 8, 0, 6, 8, 10, 24, 8, 28, 255, 8, 0, 127, 10, 63, 0, 10, 7, 231, 10, 28,
            189, 10, 14, 219, 10, 21);
        failing("9, 11: the least 64 p, 8 q and r of three POINTS that have (lack) no bit in common, p no more than q, q no more than r.",
            1, 9, 0, 104, 9, 238, 24, 9, 220, 232, 9, 238, 127, 11, 511, 0, 11, 7, 233, 11, 84, 231, 11, 220);
    }

    private static void failsOfWhatIsHad() {
        doc.says(0, "FAILS, of a TRAIT that it has not");
        YesNoClones x = Objects.with(A, 1);
        for (int trait = 0; trait < 12; trait++) doc.due("fails(0, " + trait + ")", x.fails(0, trait), NONE);
        doc.due("function(0, 4)", x.function(0, 4), 4095);
        int[] due = {0, 7, 1, 1, 3, 1, 1, 1, 0, 0, 14, 78};
        for (int trait = 0; trait < 12; trait++) doc.due("fails(1, " + trait + ")", x.fails(1, trait), due[trait]);
        doc.due("function(1, 4)", x.function(1, 4), 0);
    }

    // ---- the base

    private static void theBase() {
        doc.says(0, "THE BASE: a SET of numbers of THE SHELF (none at first; if a FUNCTION goes, so does its bit, the others stay in it).");
        doc.due("told(2) of a new object", new YesNoClones().told(2), 0);
        for (int set = 0; set < 64; set++) {
            for (int f = 0; f < 6; f++) {
                YesNoClones x = based(set, 10, 11, 12, 13, 14, 15);
                x.take(f);
                int due = 0;
                for (int g = 0; g < 6; g++) if (g != f && (set >> g & 1) == 1) due |= 1 << (g < f ? g : g - 1);
                doc.due("base " + set + " behind take(" + f + ")", x.told(2), due);
            }
        }
        YesNoClones x = based(3, 10, 11);
        x.drift(1);
        x.turn(0);
        x.put(0, 0, 0, 0);
        tell(x, "a");
        doc.due("the base, as others came", x.told(2), 3);
    }

    private static void variables() {
        doc.says(0, "MADE are a, b, c, which COST 0");
        YesNoClones x = based(7, A, B, C);
        doc.due("told(5)", x.told(5), 3);
        doc.due("told(6)", x.told(6), 0);
        doc.due("told(7)", x.told(7), C);
        for (int code : new int[] {A, B, C}) {
            doc.due("cost", x.cost(code, 0), 0);
            doc.due("its top", x.cost(code, 1), NONE);
            doc.due("its part", x.cost(code, 2), NONE);
            doc.due("its letters", x.cost(code, 5), 1);
        }
        for (int f = 0; f < 3; f++) doc.due("function(f, 6)", x.function(f, 6), 0);
        YesNoClones y = new YesNoClones();
        for (int code = 0; code < 256; code++)
            doc.due("cost(" + code + ", 0) of no base", y.cost(code, 0), code == A || code == B || code == C ? 0 : NONE);
    }

    private static void arityOfTheBase() {
        doc.says(0, "as many as its ARITY, in place of a, b, c in order (what would stand behind has no say)");
        int[][] due = {{0, 0, 1, NONE, NONE, NONE, 1}, {255, 255, 1, NONE, NONE, NONE, 1}, {15, 15, 1, A, NONE, NONE, 2},
            {15, 85, 1, C, NONE, NONE, 2}, {51, 15, 1, C, A, NONE, 3}, {51, 51, 1, C, B, NONE, 3}, {85, 15, 1, C, C, A, 4},
            {63, 63, 1, B, A, NONE, 3}, {95, 95, 1, C, C, A, 4}, {232, 232, 1, C, B, A, 4}};
        for (int[] row : due) {
            YesNoClones x = based(1, row[0]);
            doc.due("cost of " + row[1] + " by " + row[0], x.cost(row[1], 0), row[2]);
            for (int i = 0; i < 3; i++) doc.due("part " + i + " of " + row[1] + " by " + row[0], x.cost(row[1], 2 + i), row[3 + i]);
            doc.due("letters of " + row[1] + " by " + row[0], x.cost(row[1], 5), row[6]);
        }
        YesNoClones x = based(1, 0);
        doc.due("told(5) of a base of 0", x.told(5), 4);
        doc.due("told(6) of a base of 0", x.told(6), 1);
        doc.due("costing(1)", x.costing(1), 1);
        doc.due("costing(2)", x.costing(2), 0);
    }

    /** What this base makes just now, at its edges: the codes 0 and 255 and two between. */
    private static void now(String when, YesNoClones x) {
        List<Integer> shelf = new ArrayList<>();
        for (int f = 0; f < 6 && x.function(f, 0) != UNKNOWN; f++) shelf.add(x.function(f, 0));
        Plain.Made made = new Plain.Made(x.told(2), shelf);
        doc.due("told(5) " + when, x.told(5), made.made);
        doc.due("told(6) " + when, x.told(6), made.greatest);
        for (int code : new int[] {0, 15, 192, 255}) {
            String text = made.spelled(code);
            doc.due("cost(" + code + ", 0) " + when, x.cost(code, 0), made.cost[code]);
            doc.due("cost(" + code + ", 1) " + when, x.cost(code, 1), made.top[code]);
            for (int i = 0; i < 3; i++) doc.due("cost(" + code + ", " + (i + 2) + ") " + when, x.cost(code, i + 2), made.part(code, i));
            doc.due("cost(" + code + ", 5) " + when, x.cost(code, 5), text.isEmpty() ? NONE : text.length());
            doc.due("spell(" + code + ", 1) " + when, x.spell(code, 1), text.length() > 1 ? text.charAt(1) : NONE);
        }
    }

    private static void asTheBaseIsNow() {
        doc.says(0, "each FUNCTION of THE BASE PUT ON what is MADE");
        for (int f = 0; f < 6; f += 5) {
            YesNoClones x = based(1 << f, 63, 15, 128, 255, 240, 63);
            now("of 63", x);
            x.turn(f);
            now("of 63 turned over", x);
            x.undo(1);
            now("of 63 again", x);
            x.keep(0);
            x.take(1);
            now("as another one went", x);
            x.base(1);
            x.take(0);
            now("as the only one went", x);
            x.base(6);
            now("of 255 and 240", x);
            x.goBack(0);
            now("as in the image", x);
            x.base(1 << 5 - f);
            now("of one alike", x);
            x.base(0);
            now("of none", x);
        }
        YesNoClones y = based(1, 63, 192, 15);
        for (int set : new int[] {1, 2, 4, 6, 7, 1, 0, 4}) {
            y.base(set);
            now("of base " + set, y);
        }
    }

    private static void dearest() {
        doc.says(0, "COST of a CODE: the least that it can; NONE: it is not MADE (also: it would COST more than 9999).");
        int[][] bases = {{15, 136}, {63}, {1}, {0, 239}, {3}, {85, 168, 247}, {232, 15, 0}, {127, 255}, {150, 192, 255}};
        for (int[] codes : bases) {
            Plain.Made made = new Plain.Made(all(codes), boxed(codes));
            YesNoClones x = based(all(codes), codes);
            int place = x.told(3);
            for (int code = 0; code < 256; code++) {
                doc.due(Arrays.toString(codes) + " cost(" + code + ", 0)", x.cost(code, 0), made.cost[code]);
                doc.due(Arrays.toString(codes) + " makes " + code, x.cost(code, 0) == NONE ? 0 : 1, (Plain.TRAITS[code] & place) == place ? 1 : 0);
            }
        }
        doc.due("the greatest cost of 15, 136", based(3, 15, 136).told(6), 20);
    }

    private static List<Integer> boxed(int... codes) {
        List<Integer> list = new ArrayList<>();
        for (int code : codes) list.add(code);
        return list;
    }

    private static void tops() {
        doc.says(0, "TOP, of what COSTS 1 and more: the least number on THE SHELF of a FUNCTION of THE BASE by which it COSTS so little.");
        for (int set = 1; set < 64; set++) {
            YesNoClones x = based(set, 63, 63, 63, 63, 63, 63);
            int least = Integer.numberOfTrailingZeros(set);
            doc.due("top of 15, base " + set, x.cost(15, 1), least);
            doc.due("top of 192, base " + set, x.cost(192, 1), least);
            doc.due("first letter of 192, base " + set, x.spell(192, 0), 'A' + least);
            doc.due("top of a, base " + set, x.cost(A, 1), NONE);
        }
        // by 63 (nand) 'a and b' costs 3, by 192 it costs 1, though 192 has the greater number
        YesNoClones x = based(3, 63, 192);
        doc.due("top of 192", x.cost(192, 1), 1);
        doc.due("cost of 192", x.cost(192, 0), 1);
        doc.due("top of 63", x.cost(63, 1), 0);
        // 15 costs 1 by both
        doc.due("top of 15 by 63, 15", based(3, 63, 15).cost(15, 1), 0);
        doc.due("top of 15 by 15, 63", based(3, 15, 63).cost(15, 1), 0);
    }

    private static void parts() {
        doc.says(0, "of several ways that whose first PART has the least CODE, then the second, the third.");
        int[][] due = {{63, 63, B, A, NONE}, {63, 95, C, A, NONE}, {63, 119, C, B, NONE}, {192, 128, 136, A, NONE}, {252, 254, C, 252, NONE},
            {232, 232, C, B, A}, {150, 150, C, B, A}, {202, 202, A, B, C}, {202, 228, C, A, B}, {85, 85, C, C, C}, {85, 15, C, C, A}};
        for (int[] row : due) {
            YesNoClones x = based(1, row[0]);
            for (int i = 0; i < 3; i++) doc.due("part " + i + " of " + row[1] + " by " + row[0], x.cost(row[1], 2 + i), row[2 + i]);
        }
        for (int code = 1; code < 256; code += 7) {
            YesNoClones x = based(1, code);
            Plain.Made made = new Plain.Made(1, List.of(code));
            for (int i = 0; i < 3; i++) doc.due("part of " + code + " by itself", x.cost(code, 2 + i), made.part(code, i));
            for (int i = 0; i < 3; i++) doc.due("part of 0 by " + code, x.cost(0, 2 + i), made.part(0, i));
            for (int i = 0; i < 3; i++) doc.due("part of 23 by " + code, x.cost(23, 2 + i), made.part(23, i));
        }
    }

    private static void spelling() {
        doc.says(0, "SPELLED: 'a', 'b', 'c' for these; else the letter of TOP ('A' for 0 ..), and its PARTS SPELLED, in order.");
        for (int f = 0; f < 6; f++) {
            YesNoClones x = based(1 << f, 63, 63, 63, 63, 63, 63);
            String due = "AAbaAba".replace('A', (char) ('A' + f));
            doc.same("192 spelled", spelled(x, 192), due);
            doc.due("its letters", x.cost(192, 5), 7);
        }
        YesNoClones x = based(3, 255, 63);
        doc.same("a spelled", spelled(x, A), "a");
        doc.same("b spelled", spelled(x, B), "b");
        doc.same("c spelled", spelled(x, C), "c");
        doc.same("255 spelled", spelled(x, 255), "A");
        doc.same("15 spelled", spelled(x, 15), "Baa");
        doc.same("0 spelled", spelled(x, 0), "BAA");
        doc.same("what is not made", spelled(based(1, 255), 1), "");
        YesNoClones dear = based(3, 15, 136);
        int length = dear.cost(dear.told(7), 5);
        doc.due("the last letter there is", dear.spell(dear.told(7), length - 1) > 0 ? 1 : 0, 1);
        doc.due("the letter behind it", dear.spell(dear.told(7), length), NONE);
    }

    private static void common() {
        doc.says(0, "COMMON: TRAITS that all of THE BASE have (all twelve, if there are none).");
        YesNoClones x = new YesNoClones();
        doc.due("told(3)", x.told(3), 4095);
        doc.due("base(0)", x.base(0), 4095);
        YesNoClones y = Objects.with(1, 127, A);
        doc.due("told(3) of a shelf, no base", y.told(3), 4095);
        doc.due("base(3)", y.base(3), 0);
        doc.due("base(4)", y.base(4), 4095);
        doc.due("base(7)", y.base(7), 0);
        doc.due("base(0)", y.base(0), 4095);
    }

    private static void spare() {
        doc.says(0, "SPARE: those of THE BASE (a SET) without which, each alone left out, COMMON is the same.");
        int[][] due = {{0, 0}, {0, 0, A}, {1, 1, A}, {1, 0, 63}, {3, 3, 63, 63}, {3, 3, 63, 1}, {7, 4, 192, 15, 240}, {7, 7, 63, 3, 1},
            {2, 0, 63, 63}, {63, 63, A, A, A, A, A, A}, {7, 1, A, 0, 255}, {5, 1, A, A, 0}};
        for (int[] row : due) {
            YesNoClones x = based(row[0], Arrays.copyOfRange(row, 2, row.length));
            doc.due("told(8) of " + Arrays.toString(row), x.told(8), row[1]);
            doc.due("told(2) of " + Arrays.toString(row), x.told(2), row[0]);
        }
        doc.due("told(8) of a new object", new YesNoClones().told(8), 0);
    }

    // ---- places and relations

    private static void places() {
        doc.says(0, "PLACES: those SETS of TRAITS such that no other TRAIT is had by all FUNCTIONS that have all of the SET");
        TreeSet<Integer> sets = new TreeSet<>();
        YesNoClones y = new YesNoClones();
        for (int k = 0; k < 46; k++) sets.add(y.place(k, 0));
        for (int set = 0; set < 4096; set++)
            doc.due("the set " + set + " is a place", sets.contains(set) ? 1 : 0, Plain.closure(set) == set ? 1 : 0);
        doc.says(0, "they are numbered by SETS, rising.");
        YesNoClones x = new YesNoClones();
        doc.due("told(9)", x.told(9), Plain.PLACES.size());
        for (int k = 0; k < x.told(9) && k < 100; k++) doc.due("place(" + k + ", 0)", x.place(k, 0), Plain.PLACES.get(k));
        for (int k = 1; k < 46; k++) doc.due("rising at " + k, x.place(k, 0) > x.place(k - 1, 0) ? 1 : 0, 1);
        doc.due("the first", x.place(0, 0), 0);
        doc.due("the last", x.place(45, 0), 4095);
        doc.due("one more", x.place(46, 0), UNKNOWN);
        doc.says(0, "A FUNCTION is IN a PLACE, if it has all TRAITS of its SET.");
        doc.due("in the first", x.place(0, 1), 256);
        doc.due("in the last", x.place(45, 1), 3);
    }

    private static void aboveAndBelow() {
        doc.says(0, "A PLACE is ABOVE another, if its SET is part of that one's, and is another; BELOW the other way round. JUST ABOVE (JUST "
            + "BELOW): no PLACE is between.");
        YesNoClones x = new YesNoClones();
        doc.due("above the first", x.place(0, 2), 0);
        doc.due("above(0, 0)", x.above(0, 0), NONE);
        doc.due("below the last", x.place(45, 3), 0);
        doc.due("below(45, 0)", x.below(45, 0), NONE);
        for (int k = 0; k < 46; k++) {
            YesNoClones y = new YesNoClones();
            List<Integer> above = Plain.next(k, true), below = Plain.next(k, false);
            doc.due("how many above " + k, y.place(k, 2), above.size());
            doc.due("how many below " + k, y.place(k, 3), below.size());
            for (int i = 0; i < above.size(); i++) doc.due("above(" + k + ", " + i + ")", y.above(k, i), above.get(i));
            for (int i = 0; i < below.size(); i++) doc.due("below(" + k + ", " + i + ")", y.below(k, i), below.get(i));
            doc.due("above(" + k + "), one more", y.above(k, above.size()), NONE);
            doc.due("below(" + k + "), one more", y.below(k, below.size()), NONE);
            doc.due(k + " itself", above.contains(k) || below.contains(k) ? 1 : 0, 0);
        }
    }

    /** The least number of functions whose common traits are just this set, by trying sets of traits of one, two, three .. */
    private static int rank(int set) {
        TreeSet<Integer> own = new TreeSet<>();
        for (int t : Plain.TRAITS) if ((t & set) == set) own.add(t);
        TreeSet<Integer> come = new TreeSet<>(List.of(4095));
        for (int n = 0; n < 12; n++) {
            if (come.contains(set)) return n;
            TreeSet<Integer> more = new TreeSet<>();
            for (int c : come) for (int t : own) more.add(c & t);
            come = more;
        }
        return NONE;
    }

    private static void ranks() {
        doc.says(0, "RANK: of how many FUNCTIONS at least the TRAITS that all of them have are just its SET (0 of the SET of all twelve).");
        YesNoClones x = new YesNoClones();
        for (int k = 0; k < 46; k++) doc.due("rank of " + k, x.place(k, 4), rank(Plain.PLACES.get(k)));
        doc.due("rank of the last", x.place(45, 4), 0);
        doc.due("rank of the first, that one function has", x.place(0, 4), 1);
        doc.due("rank of one that takes two", x.place(7, 4), 2);
        doc.due("rank of one that takes three", x.place(15, 4), 3);
    }

    private static void meetsAndJoins() {
        doc.says(0, "MEET of two PLACES: the SET of TRAITS that all FUNCTIONS IN both have. JOIN: the SET of TRAITS that are of both.");
        for (int k = 0; k < 46; k++) {
            YesNoClones x = new YesNoClones();
            doc.due("meet(k, k)", x.meet(k, k), k);
            doc.due("join(k, k)", x.join(k, k), k);
            doc.due("meet(k, 0)", x.meet(k, 0), k);
            doc.due("meet(0, k)", x.meet(0, k), k);
            doc.due("meet(k, 45)", x.meet(k, 45), 45);
            doc.due("join(k, 0)", x.join(k, 0), 0);
            doc.due("join(k, 45)", x.join(k, 45), k);
            doc.due("join(45, k)", x.join(45, k), k);
            for (int l = 0; l < 46; l++) {
                int set = Plain.closure(Plain.PLACES.get(k) | Plain.PLACES.get(l));
                doc.due("meet(" + k + ", " + l + ")", x.meet(k, l), Plain.PLACES.indexOf(set));
                doc.due("join(" + k + ", " + l + ")", x.join(k, l), Plain.PLACES.indexOf(Plain.PLACES.get(k) & Plain.PLACES.get(l)));
            }
        }
    }

    private static void relations() {
        doc.says(0, "RELATIONS of k (1 .. 3): a SET of ROWS, ROW r of k bits (0 .. 2 to the k, less 1).");
        YesNoClones x = new YesNoClones();
        for (int k = 1; k <= 3; k++) {
            int last = (1 << k) - 1;
            doc.due("no row of " + k, x.relation(k, 0, 0), 256);
            doc.due("no row of " + k, x.relation(k, 0, 1), 0);
            doc.due("all rows of " + k, x.relation(k, (1 << last + 1) - 1, 0), 256);
            doc.due("all rows of " + k, x.relation(k, (1 << last + 1) - 1, 1), 0);
            doc.due("the first row of " + k, x.relation(k, 1, 0), 128);
            doc.due("the first row of " + k, x.relation(k, 1, 1), 1);
            doc.due("the last row of " + k, x.relation(k, 1 << last, 0), 128);
            doc.due("the last row of " + k, x.relation(k, 1 << last, 1), 2);
            doc.due("both of " + k, x.relation(k, 1 << last | 1, 0), 256);
            doc.due("a row more of " + k, x.relation(k, 1 << last + 1, 0), OUTSIDE);
        }
        doc.due("k 0", x.relation(0, 0, 0), OUTSIDE);
        doc.due("k 4", x.relation(4, 0, 0), OUTSIDE);
    }

    private static void keeping() {
        doc.says(0, "A FUNCTION KEEPS it, if for all x, y, z of its ROWS (perhaps the same) that ROW is one of it");
        for (int k = 1; k <= 3; k++) {
            for (int row = 0; row < 1 << k; row++) {
                for (int code : new int[] {0, 255, 128, 127, 1, 254, A, 15, 150, 232}) {
                    YesNoClones x = Objects.with(code);
                    // the one row thrice: at each bit it tells what it tells at point 0 or 7
                    int came = 0;
                    for (int bit = 0; bit < k; bit++) came |= (code >> ((row >> bit & 1) == 1 ? 7 : 0) & 1) << bit;
                    doc.due(code + " keeps row " + row + " of " + k, x.keeps(0, k, 1 << row), came == row ? 1 : 0);
                }
            }
        }
        YesNoClones x = Objects.with(128, 232, 3);
        // rows 01, 10, 11 and 00, 01, 10: 'and' leads out of the first
        doc.due("and, 1110", x.keeps(0, 2, 14), 0);
        doc.due("and, 0111", x.keeps(0, 2, 7), 1);
        doc.due("majority, 1110", x.keeps(1, 2, 14), 1);
        // three unlike rows are needed to lead out of these
        doc.due("majority, rows 3, 5, 6, 7", x.keeps(1, 3, 232), 1);
        doc.due("majority, rows 3, 5, 6", x.keeps(1, 3, 104), 0);
        doc.due("and, rows 3, 5, 6, 7", x.keeps(0, 3, 232), 0);
        for (int rows = 0; rows < 256; rows++) {
            YesNoClones y = Objects.with(rows * 37 & 255, 202, 255 - rows);
            int[] codes = {rows * 37 & 255, 202, 255 - rows};
            for (int f = 0; f < 3; f++)
                for (int k = 1; k <= 3; k++) {
                    int own = rows & (1 << (1 << k)) - 1;
                    doc.due(codes[f] + " keeps " + k + ", " + own, y.keeps(f, k, own), Plain.kept(codes[f], k, own) ? 1 : 0);
                }
        }
    }

    private static void placeOfARelation() {
        doc.says(0, "PLACE of a RELATION: the SET of TRAITS that all FUNCTIONS which KEEP it have.");
        for (int k = 1; k <= 3; k++) {
            for (int rows = 0; rows < 1 << (1 << k); rows++) {
                int set = 4095;
                for (int code = 0; code < 256; code++) if (Plain.kept(code, k, rows)) set &= Plain.TRAITS[code];
                YesNoClones x = new YesNoClones();
                doc.due("relation(" + k + ", " + rows + ", 1)", x.relation(k, rows, 1), Plain.PLACES.indexOf(set));
                doc.due("its set", x.place(x.relation(k, rows, 1), 0), set);
            }
        }
    }

    // ---- the book, draws, what is undone, images

    private static void book() {
        doc.says(0, "THE BOOK (20 at most) tells the COST of a CODE (or NONE): WRONG: the first that is otherwise now; NONE.");
        for (int wrong = 0; wrong <= 20; wrong++) {
            YesNoClones x = based(1, 63);
            for (int n = 0; n < 20; n++) doc.due("write", x.write(n * 13, x.cost(n * 13, 0) + (n == wrong || n == wrong + 2 ? 1 : 0)), n + 1);
            doc.due("told(11), wrong from " + wrong + " on", x.told(11), wrong == 20 ? NONE : wrong);
            doc.due("told(10)", x.told(10), 20);
            doc.due("one more", x.write(1, 1), FULL);
        }
        YesNoClones x = Objects.with(63);
        doc.due("told(11) of no book", x.told(11), NONE);
        x.write(1, NONE);
        x.write(A, 0);
        doc.due("told(11), not made", x.told(11), NONE);
        x.base(1);
        doc.due("told(11), now made", x.told(11), 0);
        x.undo(1);
        doc.due("told(11), undone", x.told(11), NONE);
        x.write(2, 0);
        doc.due("told(11), 0 for what is not made", x.told(11), 2);
    }

    private static void draws() {
        doc.says(0, "THE SEED (0 at first: each DRAW it becomes it times 1103515245 and 12345, left over by 2 to the 31; the DRAW of n is "
            + "it / 65536, left over by n)");
        YesNoClones x = new YesNoClones();
        doc.due("the seed at first", x.seed(0), 0);
        long seed = 0;
        for (int i = 0; i < 40; i++) {
            x.drift(1);
            seed = (seed * 1103515245 + 12345) % 2147483648L;
            doc.due("function", x.function(x.told(0) - 1, 0), (int) (seed / 65536 % 256));
            doc.due("the seed", x.seed((int) seed), (int) seed);
            x.take(0);
        }
        for (int v : new int[] {Integer.MAX_VALUE, Integer.MAX_VALUE - 1, 1 << 30, 65536, 65535, 1, 2147418112}) {
            YesNoClones y = new YesNoClones();
            y.seed(v);
            doc.due("drift(1)", y.drift(1), 1);
            long next = (v * 1103515245L + 12345) % 2147483648L;
            doc.due("the draw behind " + v, y.function(0, 0), (int) (next / 65536 % 256));
            doc.due("the seed behind " + v, y.seed(0), (int) next);
        }
        for (int code : new int[] {0, 1, 254, 255}) {
            YesNoClones y = new YesNoClones();
            y.seed(Objects.seedFor(code));
            y.drift(1);
            doc.due("a draw of " + code, y.function(0, 0), code);
        }
    }

    private static void whileThereIsRoom() {
        doc.says(0, "n times, while there is room: a DRAW of 256 is the CODE of a FUNCTION that comes onto THE SHELF.");
        for (int had = 0; had <= 6; had++) {
            for (int n = 1; n <= 6; n++) {
                YesNoClones x = new YesNoClones();
                for (int i = 0; i < had; i++) tell(x, "a");
                int draws = Math.min(n, 6 - had);
                doc.due("drift(" + n + ") of " + had, x.drift(n), had + draws);
                doc.due("deeds", x.told(12), had + draws);
                long seed = 0;
                for (int i = 0; i < draws; i++) {
                    seed = (seed * 1103515245 + 12345) % 2147483648L;
                    doc.due("function", x.function(had + i, 0), (int) (seed / 65536 % 256));
                }
                doc.due("the seed", x.seed(0), (int) seed);
            }
        }
    }

    private static void deedsThatAreKept() {
        doc.says(0, "since the IMAGE (16 at most are kept)");
        YesNoClones x = Objects.with(1);
        for (int i = 2; i <= 40; i++) {
            x.turn(0);
            doc.due("told(12)", x.told(12), Math.min(i, 16));
        }
        doc.due("undo(16)", x.undo(16), 1);
        doc.due("told(12)", x.told(12), 0);
        doc.due("undo(1)", x.undo(1), NOT);
        doc.due("function(0, 0)", x.function(0, 0), 127);
        x.base(1);
        x.base(0);
        doc.due("undo(3)", x.undo(3), NOT);
        x.keep(0);
        doc.due("told(12), an image kept", x.told(12), 0);
        x.base(1);
        doc.due("told(12)", x.told(12), 1);
        doc.due("undo(2)", x.undo(2), NOT);
        x.goBack(0);
        doc.due("told(12), gone back", x.told(12), 0);
        doc.due("undo(1)", x.undo(1), NOT);
        for (int n = 1; n <= 16; n++) {
            YesNoClones y = Objects.with(1, 2, 3, 4, 5, 6);
            for (int i = 1; i <= 20; i++) y.base(i);
            doc.due("undo(" + n + ")", y.undo(n), 6);
            doc.due("the base", y.told(2), 20 - n);
            doc.due("told(12)", y.told(12), 16 - n);
        }
    }

    private static void deedsThatChangeNothing() {
        doc.says(0, "all that were not refused, be it that they changed nothing");
        YesNoClones x = Objects.with(A);
        x.base(1);
        x.keep(0);
        x.base(1);
        doc.due("base of what it is", x.told(12), 1);
        x.turn(0);
        doc.due("turn of what is its own", x.told(12), 2);
        doc.due("undo(1)", x.undo(1), 1);
        doc.due("told(12)", x.told(12), 1);
        x.tell();
        Objects.type(x, "x").tell();
        x.base(2);
        x.put(0, 0, 0, 1);
        x.take(1);
        x.turn(-1);
        x.drift(0);
        x.undo(9);
        x.goBack(1);
        x.keep(2);
        doc.due("what was refused or had a fault", x.told(12), 1);
        x.feed('a');
        x.write(1, 1);
        x.tear();
        x.seed(4);
        x.told(5);
        doc.due("what is no deed", x.told(12), 1);
        x.drift(6);
        doc.due("each function by draws", x.told(12), 6);
        x.drift(6);
        x.put(0, 0, 0, 0);
        x.tell();
        doc.due("of six", x.told(12), 6);
    }

    private static void asAheadOfThem() {
        doc.says(0, "THE SHELF, THE BASE are as ahead of them; THE SEED, THE BOOK stay.");
        YesNoClones x = based(5, 1, 2, 3);
        x.seed(50);
        x.write(7, 7);
        x.feed('b');
        x.take(0);
        codes("taken", x, 2, 3);
        doc.due("told(2)", x.told(2), 2);
        x.turn(1);
        x.put(0, 0, 0, 0);
        x.drift(2);
        x.seed(51);
        x.write(8, 8);
        doc.due("undo(2), by draws", x.undo(2), 3);
        doc.due("undo(1), put", x.undo(1), 2);
        codes("turned", x, 2, 63);
        doc.due("undo(1), turn", x.undo(1), 2);
        codes("not turned", x, 2, 3);
        doc.due("undo(1), take", x.undo(1), 3);
        codes("as at first", x, 1, 2, 3);
        doc.due("told(2)", x.told(2), 5);
        doc.due("the seed", x.seed(0), 51);
        doc.due("the book", x.told(10), 2);
        doc.due("the text", x.told(1), 1);
        doc.due("tell", x.tell(), 3);
        doc.due("undo(1), tell", x.undo(1), 3);
        doc.due("undo(1), base", x.undo(1), 3);
        doc.due("told(2)", x.told(2), 0);
        doc.due("undo(3), by draws", x.undo(3), 0);
    }

    private static void images() {
        doc.says(0, "IMAGES 0, 1 keep THE SHELF, THE BASE, THE SEED.");
        YesNoClones x = based(2, 1, 2);
        x.seed(5);
        x.keep(0);
        x.take(0);
        x.base(0);
        x.seed(6);
        x.keep(1);
        x.drift(5);
        x.seed(7);
        for (int i = 0; i < 2; i++) {
            doc.due("goBack(0)", x.goBack(0), 1);
            codes("of image 0", x, 1, 2);
            doc.due("told(2)", x.told(2), 2);
            doc.due("the seed", x.seed(8), 5);
            doc.due("goBack(1)", x.goBack(1), 1);
            codes("of image 1", x, 2);
            doc.due("told(2)", x.told(2), 0);
            doc.due("the seed", x.seed(9), 6);
        }
        x.take(0);
        x.keep(1);
        x.drift(6);
        x.base(63);
        doc.due("goBack(1) to nothing", x.goBack(1), 1);
        codes("of image 1", x);
        doc.due("told(2)", x.told(2), 0);
    }

    public static void main(String[] args) throws IOException {
        doc = new Sentences("TermsTest", args);
        calls();
        fromNought();
        sets();
        constants();
        codesAndPoints();
        hanging();
        arity();
        turnedOver();
        sums();
        shelf();
        putOn();
        lettersByThemselves();
        binding("behind '!' one", "!", 1);
        binding("'|' (one at least), '^' (they are unlike), '=' (they are alike), '>' (0 just if the first is 1 and the second 0) two",
            "&|^=>", 2);
        binding("'m' three (1, if two of them at least are), behind 'A' .. 'F' three", "?mABCDE", 3);
        meanings();
        shelfLetters();
        firstFault();
        strangeLetters();
        missingFunctions();
        behindTheEnd();
        shortTexts();
        firstTraits();
        laterTraits();
        placesOfFails();
        failsOfWhatIsHad();
        theBase();
        variables();
        arityOfTheBase();
        asTheBaseIsNow();
        dearest();
        tops();
        parts();
        spelling();
        common();
        spare();
        places();
        aboveAndBelow();
        ranks();
        meetsAndJoins();
        relations();
        keeping();
        placeOfARelation();
        book();
        draws();
        whileThereIsRoom();
        deedsThatAreKept();
        deedsThatChangeNothing();
        asAheadOfThem();
        images();
        doc.end();
    }
}
