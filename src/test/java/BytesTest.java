import java.io.ByteArrayInputStream;
import java.io.DataInputStream;
import java.io.IOException;
import java.io.InputStream;
import java.util.ArrayList;
import java.util.List;
import java.util.Map;
import java.util.Set;
import java.util.TreeMap;
import java.util.TreeSet;

/**
 * The rules of ../shared/LANGUAGE.md that can be seen in the compiled class: how deep calls go, what they call of the
 * library, that nothing is thrown, caught or cast; and that only constructors make objects, as README.md says.
 */
public final class BytesTest {
    private static final int DEEPEST = 8;
    private static final int TABLESWITCH = 0xaa, LOOKUPSWITCH = 0xab, INVOKEVIRTUAL = 0xb6, INVOKEINTERFACE = 0xb9,
        INVOKEDYNAMIC = 0xba, NEW = 0xbb, ANEWARRAY = 0xbd, ATHROW = 0xbf, CHECKCAST = 0xc0, MONITOREXIT = 0xc3, WIDE = 0xc4,
        MULTIANEWARRAY = 0xc5;

    /** All methods, by class, name and type, and what each of them calls. */
    private static final Map<String, Set<String>> CALLS = new TreeMap<>();
    private static final Set<String> FACE = new TreeSet<>();
    private static int wrong = 0;

    private String[] names;
    private int[] firsts;
    private int[] seconds;
    private String type;

    private static void fault(String what) {
        wrong++;
        System.out.println("BytesTest: " + what);
    }

    // ---- a class file

    private void read(Class<?> c) throws IOException {
        String file = "/" + c.getName() + ".class";
        try (InputStream stream = c.getResourceAsStream(file)) {
            if (stream == null) throw new IOException("no " + file);
            DataInputStream in = new DataInputStream(new ByteArrayInputStream(stream.readAllBytes()));
            in.skipBytes(8);
            pool(in);
            in.skipBytes(2);
            type = className(in.readUnsignedShort());
            in.skipBytes(2);
            in.skipBytes(2 * in.readUnsignedShort());
            for (int n = in.readUnsignedShort(); n > 0; n--) member(in, false);
            for (int n = in.readUnsignedShort(); n > 0; n--) member(in, true);
        }
    }

    private void pool(DataInputStream in) throws IOException {
        int size = in.readUnsignedShort();
        names = new String[size];
        firsts = new int[size];
        seconds = new int[size];
        for (int i = 1; i < size; i++) {
            int tag = in.readUnsignedByte();
            switch (tag) {
                case 1: names[i] = in.readUTF(); break;
                case 7: case 8: case 16: case 19: case 20: firsts[i] = in.readUnsignedShort(); break;
                case 9: case 10: case 11: case 12: case 17: case 18:
                    firsts[i] = in.readUnsignedShort();
                    seconds[i] = in.readUnsignedShort();
                    break;
                case 15: in.skipBytes(3); break;
                case 5: case 6: in.skipBytes(8); i++; break;
                case 3: case 4: in.skipBytes(4); break;
                default: throw new IOException("a constant of kind " + tag);
            }
        }
    }

    private String className(int i) {
        return names[firsts[i]];
    }

    private String method(int i) {
        int nameAndType = seconds[i];
        return className(firsts[i]) + "." + names[firsts[nameAndType]] + names[seconds[nameAndType]];
    }

    private void member(DataInputStream in, boolean isMethod) throws IOException {
        int access = in.readUnsignedShort();
        String name = names[in.readUnsignedShort()];
        String called = type + "." + name + names[in.readUnsignedShort()];
        if (isMethod) {
            CALLS.put(called, new TreeSet<>());
            if ((access & 1) != 0 && type.equals("YesNoClones")) FACE.add(called);
        }
        for (int n = in.readUnsignedShort(); n > 0; n--) {
            String attribute = names[in.readUnsignedShort()];
            byte[] bytes = in.readNBytes(in.readInt());
            if (isMethod && attribute.equals("Code")) code(called, name, bytes);
        }
    }

    private void code(String called, String name, byte[] bytes) throws IOException {
        DataInputStream in = new DataInputStream(new ByteArrayInputStream(bytes));
        in.skipBytes(4);
        byte[] code = in.readNBytes(in.readInt());
        if (in.readUnsignedShort() != 0) fault(called + " catches something");
        for (int at = 0; at < code.length; at += length(code, at)) look(called, name, code, at);
    }

    private void look(String called, String name, byte[] code, int at) {
        int op = code[at] & 255;
        if (op >= INVOKEVIRTUAL && op <= INVOKEINTERFACE) CALLS.get(called).add(method(two(code, at + 1)));
        boolean makes = op >= NEW && op <= ANEWARRAY || op == MULTIANEWARRAY;
        if (makes && !name.equals("<init>")) fault(called + " makes an object");
        if (op == INVOKEDYNAMIC || op >= ATHROW && op <= MONITOREXIT) fault(called + " has the instruction " + op);
    }

    private static int two(byte[] code, int at) {
        return (code[at] & 255) << 8 | code[at + 1] & 255;
    }

    private static int four(byte[] code, int at) {
        return two(code, at) << 16 | two(code, at + 2);
    }

    /** How many bytes an instruction has. */
    private static int length(byte[] code, int at) {
        int op = code[at] & 255;
        int table = (at + 4 & ~3) - at;
        if (op == TABLESWITCH) return table + 12 + 4 * (four(code, at + table + 8) - four(code, at + table + 4) + 1);
        if (op == LOOKUPSWITCH) return table + 8 + 8 * four(code, at + table + 4);
        if (op == WIDE) return (code[at + 1] & 255) == 0x84 ? 6 : 4;
        if (op == 0x10 || op == 0x12 || op >= 0x15 && op <= 0x19 || op >= 0x36 && op <= 0x3a || op == 0xa9 || op == 0xbc) return 2;
        if (op == INVOKEINTERFACE || op == INVOKEDYNAMIC || op == 0xc8 || op == 0xc9) return 5;
        if (op == MULTIANEWARRAY) return 4;
        boolean three = op == 0x11 || op == 0x13 || op == 0x14 || op == 0x84 || op >= 0x99 && op <= 0xa8 || op >= 0xb2 && op <= 0xb8
            || op == NEW || op == ANEWARRAY || op == CHECKCAST || op == 0xc1 || op == 0xc6 || op == 0xc7;
        return three ? 3 : 1;
    }

    // ---- what calls what

    private static boolean mayBeCalled(String method) {
        return method.equals("java/lang/Object.<init>()V")
            || method.matches("java/lang/(Math|Integer|Long)\\.(?!\\w*Exact\\()\\w+\\([IJ]*\\)[IJ]");
    }

    private static int deepest(String method, List<String> open) {
        if (!CALLS.containsKey(method)) {
            if (!mayBeCalled(method)) fault(open.get(open.size() - 1) + " calls " + method);
            return 0;
        }
        if (open.contains(method)) {
            fault(method + " comes back to itself");
            return 0;
        }
        open.add(method);
        int most = 0;
        for (String called : CALLS.get(method)) most = Math.max(most, deepest(called, open));
        open.remove(open.size() - 1);
        return most + 1;
    }

    public static void main(String[] args) throws IOException {
        List<Class<?>> classes = new ArrayList<>(List.of(YesNoClones.class.getDeclaredClasses()));
        classes.add(YesNoClones.class);
        for (Class<?> c : classes) new BytesTest().read(c);
        int most = 0;
        for (String method : FACE) {
            int depth = deepest(method, new ArrayList<>());
            if (depth > DEEPEST) fault(method + " goes " + depth + " calls deep");
            most = Math.max(most, depth);
        }
        if (FACE.size() != 28) fault("the face has " + FACE.size() + " calls");
        System.out.println("BytesTest: " + CALLS.size() + " methods, " + most + " calls deep, " + wrong + " wrong");
        if (wrong > 0) System.exit(1);
    }
}
