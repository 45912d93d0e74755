import java.lang.reflect.Array;
import java.lang.reflect.Field;
import java.lang.reflect.InvocationTargetException;
import java.lang.reflect.Method;
import java.lang.reflect.Modifier;
import java.util.ArrayList;
import java.util.Comparator;
import java.util.List;
import java.util.Map;
import java.util.Random;
import java.util.TreeMap;

/**
 * An index is looked at where it is used, not only far ahead of it: whatever number stands in a field or an array of an
 * object (here it is put there by force), no call may throw.
 */
public final class GuardsTest {
    private static final int[] WILD = {Integer.MIN_VALUE, -65536, -1, 0, 1, 5, 6, 16, 17, 20, 60, 255, 256, 4096, 10000, 10001,
        Integer.MAX_VALUE};
    private static final int TIMES = 4;
    private static final List<Method> CALLS = new ArrayList<>();
    private static final Map<String, Integer> THROWN = new TreeMap<>();
    private static final Random RANDOM = new Random(9);
    private static int calls = 0;

    private static YesNoClones used() {
        YesNoClones x = Objects.with(254, 232, 22);
        x.base(5);
        x.told(6);
        x.cost(150, 5);
        x.write(150, 3);
        x.keep(0);
        x.turn(1);
        Objects.type(x, "&a");
        return x;
    }

    /** The object and all that it holds, but not arrays. */
    private static List<Object> partsOf(Object object) throws IllegalAccessException {
        List<Object> parts = new ArrayList<>(List.of(object));
        for (Field field : fieldsOf(object))
            if (!field.getType().isPrimitive() && !field.getType().isArray()) parts.addAll(partsOf(field.get(object)));
        return parts;
    }

    private static List<Field> fieldsOf(Object object) {
        List<Field> fields = new ArrayList<>();
        for (Field field : object.getClass().getDeclaredFields()) {
            if (Modifier.isStatic(field.getModifiers())) continue;
            field.setAccessible(true);
            fields.add(field);
        }
        return fields;
    }

    private static void spoil(Object part, Field field, int value) throws IllegalAccessException {
        if (field.getType() == int.class) field.setInt(part, value);
        if (field.getType() == boolean.class) field.setBoolean(part, value > 0);
        if (!field.getType().isArray()) return;
        Object array = field.get(part);
        for (int i = 0; i < Array.getLength(array); i++) {
            if (array instanceof int[]) ((int[]) array)[i] = value;
            else ((boolean[]) array)[i] = value > 0;
        }
    }

    /** Most often an argument that calls take; now and then about the number that was put in, or another. */
    private static int some(int value) {
        int kind = RANDOM.nextInt(12);
        return kind < 2 ? value - kind : kind < 3 ? WILD[RANDOM.nextInt(WILD.length)] : kind < 8 ? RANDOM.nextInt(4) : RANDOM.nextInt(256);
    }

    private static void call(YesNoClones x, Method method, int value) throws IllegalAccessException {
        Object[] numbers = new Object[method.getParameterCount()];
        for (int i = 0; i < numbers.length; i++) numbers[i] = some(value);
        calls++;
        try {
            method.invoke(x, numbers);
        } catch (InvocationTargetException e) {
            StackTraceElement[] at = e.getCause().getStackTrace();
            THROWN.merge(method.getName() + ": " + e.getCause() + (at.length > 0 ? " at " + at[0] : ""), 1, Integer::sum);
        }
    }

    private static void callAll(YesNoClones x, Object part, Field field, int value) throws IllegalAccessException {
        for (Method method : CALLS)
            for (int n = 0; n < TIMES; n++) {
                spoil(part, field, value);
                call(x, method, value);
            }
    }

    public static void main(String[] args) throws IllegalAccessException {
        for (Method method : YesNoClones.class.getDeclaredMethods()) if (Modifier.isPublic(method.getModifiers())) CALLS.add(method);
        CALLS.sort(Comparator.comparing(Method::getName));
        int fields = 0;
        int parts = partsOf(used()).size();
        for (int p = 0; p < parts; p++)
            for (int f = 0; f < fieldsOf(partsOf(used()).get(p)).size(); f++, fields++)
                for (int value : WILD) {
                    YesNoClones x = used();
                    Object part = partsOf(x).get(p);
                    callAll(x, part, fieldsOf(part).get(f), value);
                }
        THROWN.forEach((what, times) -> System.out.println("GuardsTest: " + what + " (" + times + " times)"));
        System.out.println("GuardsTest: " + fields + " fields, " + calls + " calls, " + THROWN.size() + " wrong");
        if (!THROWN.isEmpty() || fields == 0) System.exit(1);
    }
}
