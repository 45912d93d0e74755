import java.io.IOException;
import java.lang.reflect.Method;
import java.nio.file.Files;
import java.nio.file.Path;
import java.util.Set;
import java.util.TreeSet;
import java.util.regex.Matcher;
import java.util.regex.Pattern;

/** What README.md shows of the class is so: each line's last call answers the number behind it; and it shows each call. */
public final class ReadmeTest {
    private static final Pattern CALL = Pattern.compile("x\\.(\\w+)\\(([^)]*)\\);");
    private static final Pattern ANSWER = Pattern.compile("// (-?\\d+):");

    private static int number(String word) {
        return word.startsWith("'") ? word.charAt(1) : Integer.parseInt(word);
    }

    private static int answer(YesNoClones x, String name, String list) throws ReflectiveOperationException {
        String[] words = list.isEmpty() ? new String[0] : list.split(", ");
        Class<?>[] types = new Class<?>[words.length];
        Object[] numbers = new Object[words.length];
        for (int i = 0; i < words.length; i++) {
            types[i] = int.class;
            numbers[i] = number(words[i]);
        }
        return (int) YesNoClones.class.getMethod(name, types).invoke(x, numbers);
    }

    public static void main(String[] args) throws IOException, ReflectiveOperationException {
        String text = Files.readString(Path.of(args.length > 0 ? args[0] : ".").resolve("README.md"));
        int start = text.indexOf("```java");
        int end = text.indexOf("```", start + 7);
        if (start < 0 || end < 0) throw new IOException("README.md shows nothing");
        YesNoClones x = new YesNoClones();
        Set<String> shown = new TreeSet<>();
        int answers = 0, wrong = 0;
        for (String line : text.substring(start + 7, end).split("\n")) {
            int got = 0;
            Matcher call = CALL.matcher(line);
            while (call.find()) {
                shown.add(call.group(1));
                got = answer(x, call.group(1), call.group(2));
            }
            Matcher due = ANSWER.matcher(line);
            if (!due.find()) continue;
            answers++;
            if (got == Integer.parseInt(due.group(1))) continue;
            wrong++;
            System.out.println("ReadmeTest: " + line + " - it answered " + got);
        }
        for (Method m : YesNoClones.class.getDeclaredMethods()) {
            if (!java.lang.reflect.Modifier.isPublic(m.getModifiers()) || shown.contains(m.getName())) continue;
            wrong++;
            System.out.println("ReadmeTest: " + m.getName() + " is not shown");
        }
        System.out.println("ReadmeTest: " + answers + " answers, " + wrong + " wrong");
        if (wrong > 0 || answers == 0) System.exit(1);
    }
}
