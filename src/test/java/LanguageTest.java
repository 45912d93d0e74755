import java.io.IOException;
import java.nio.charset.StandardCharsets;
import java.nio.file.Files;
import java.nio.file.Path;
import java.util.ArrayList;
import java.util.Arrays;
import java.util.List;
import java.util.TreeSet;
import java.util.Set;
import java.util.regex.Matcher;
import java.util.regex.Pattern;

/** The rules of ../shared/LANGUAGE.md that can be seen in the text of the class, and its face. */
public final class LanguageTest {
    private static final List<String> FACE = List.of("feed", "tell", "fault", "told", "function", "fails", "cost", "spell",
        "costing", "place", "above", "below", "meet", "join", "relation", "keeps", "put", "turn", "take", "base", "drift", "undo",
        "write", "tear", "seed", "keep", "goBack");
    private static int wrong = 0;

    private static void fault(String what) {
        wrong++;
        System.out.println("LanguageTest: " + what);
    }

    /** The source without comments, texts and signs in quotes. */
    private static String bare(String source) {
        String text = source.replaceAll("(?s)/\\*.*?\\*/", " ");
        text = text.replaceAll("//[^\n]*", " ").replaceAll("'(\\\\.|[^'\\\\])'", "0");
        return text.replaceAll("\"(\\\\.|[^\"\\\\])*\"", "TEXT");
    }

    private static void words(String text) {
        String[] banned = {"throw", "throws", "try", "catch", "synchronized", "assert", "import", "package", "protected", "Object",
            "Thread", "Random", "System", "Exception", "HashMap", "Map", "Set", "equals", "hashCode", "toString", "var", "native",
            "transient", "volatile", "yield", "sealed", "permits", "default\\s*->"};
        for (String word : banned) {
            if (Pattern.compile("\\b" + word + (word.endsWith(">") ? "" : "\\b")).matcher(text).find()) fault("there is '" + word + "'");
        }
        if (text.contains("->")) fault("there is an arrow");
        if (text.contains("::")) fault("there is a method reference");
        if (text.chars().anyMatch(c -> c > 126)) fault("there is a sign beyond 126");
        Matcher statics = Pattern.compile("static\\s+(?!final)[\\w\\[\\]]+\\s+\\w+\\s*(=|;)").matcher(text);
        if (statics.find()) fault("a static field that is not final: " + statics.group());
    }

    private static void methodLengths(String source) {
        String[] lines = source.split("\n");
        for (int i = 0; i < lines.length; i++) {
            if (!lines[i].matches("\\s+(public |private )?(static )?[\\w\\[\\]]+ \\w+\\(.*\\) \\{")) continue;
            String end = lines[i].replaceAll("\\S.*", "") + "}";
            int j = i;
            while (j < lines.length && !lines[j].equals(end)) j++;
            if (j - i > 50) fault("a method of " + (j - i) + " lines: " + lines[i].trim());
            if (lines[i].chars().filter(c -> c == ',').count() > 6) fault("more than seven parameters: " + lines[i].trim());
        }
    }

    private static void face() {
        Set<String> due = new TreeSet<>(FACE), seen = new TreeSet<>();
        for (java.lang.reflect.Method m : YesNoClones.class.getDeclaredMethods()) {
            boolean open = java.lang.reflect.Modifier.isPublic(m.getModifiers());
            if (!open && !java.lang.reflect.Modifier.isPrivate(m.getModifiers())) fault("neither public nor private: " + m);
            if (open && !seen.add(m.getName())) fault("twice: " + m);
            if (!open && FACE.contains(m.getName())) fault("a private method with a public name: " + m);
            if (open && (m.getReturnType() != int.class || Arrays.stream(m.getParameterTypes()).anyMatch(t -> t != int.class)))
                fault("not of int: " + m);
        }
        if (!due.equals(seen)) fault("the face is " + seen);
        Set<String> constants = new TreeSet<>();
        for (java.lang.reflect.Field f : YesNoClones.class.getDeclaredFields()) {
            int m = f.getModifiers();
            if (java.lang.reflect.Modifier.isPublic(m)) constants.add(f.getName());
            else if (!java.lang.reflect.Modifier.isPrivate(m)) fault("neither public nor private: " + f);
        }
        if (!constants.equals(new TreeSet<>(List.of("NONE", "UNKNOWN", "OUTSIDE", "NOT", "FULL")))) fault("the constants are " + constants);
        if (YesNoClones.class.getDeclaredConstructors().length != 1) fault("more than one constructor");
        classes();
    }

    private static void classes() {
        List<Class<?>> all = new ArrayList<>(List.of(YesNoClones.class.getDeclaredClasses()));
        all.add(YesNoClones.class);
        if (all.size() > 12) fault(all.size() + " classes");
        for (Class<?> c : all) {
            long fields = Arrays.stream(c.getDeclaredFields()).filter(f -> !java.lang.reflect.Modifier.isStatic(f.getModifiers())).count();
            if (fields > 20) fault(c + " has " + fields + " fields");
            if (!java.lang.reflect.Modifier.isFinal(c.getModifiers())) fault(c + " is not final");
        }
    }

    public static void main(String[] args) throws IOException {
        Path root = Path.of(args.length > 0 ? args[0] : ".");
        String source = Files.readString(root.resolve("src/main/java/YesNoClones.java"), StandardCharsets.ISO_8859_1);
        words(bare(source));
        methodLengths(source);
        face();
        System.out.println("LanguageTest: " + (wrong == 0 ? "all is as it may be" : wrong + " faults"));
        if (wrong > 0) System.exit(1);
    }
}
