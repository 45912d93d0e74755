import java.util.Random;
import java.util.concurrent.atomic.AtomicLong;
import java.util.stream.IntStream;

/** Runs of drawn calls, on YesNoClones and on Plain: all answers must be alike. */
public final class RunsTest {
    private static final int[] WILD = {Integer.MIN_VALUE, Integer.MIN_VALUE + 1, -1000000001, -65536, -257, -256, -17, -7,
        -2, -1, 6, 7, 8, 12, 13, 16, 17, 20, 45, 46, 47, 60, 61, 63, 64, 127, 128, 255, 256, 257, 4095, 4096, 9999, 10000, 65535,
        65536, 1 << 30, Integer.MAX_VALUE - 1, Integer.MAX_VALUE};
    private static final String LETTERS = "01abc!&|^=>?mABCDEF";

    private final Random random;
    private final StringBuilder told = new StringBuilder();
    private YesNoClones real = new YesNoClones();
    private Plain plain = new Plain();
    private int calls = 0;

    private RunsTest(long seed) {
        random = new Random(seed);
    }

    private int below(int n) {
        return random.nextInt(n);
    }

    /** Most often below n, else anything. */
    private int about(int n) {
        if (below(40) == 0) return WILD[below(WILD.length)];
        if (below(200) == 0) return random.nextInt();
        return below(n);
    }

    private int some() {
        return about(Math.max(1, plain.told(0)));
    }

    private void due(String call, int got, int want) {
        calls++;
        if (told.length() < 200000) told.append(call).append(" = ").append(want).append('\n');
        if (got != want) {
            System.out.println(told + "the last: " + call + " answered " + got + ", due is " + want);
            System.exit(1);
        }
    }

    private void feed(int letter) {
        due("feed(" + letter + ")", real.feed(letter), plain.feed(letter));
    }

    /** A formula that is whole, or nearly. */
    private void type() {
        int open = 1;
        int most = 1 + below(14);
        for (int i = 0; open > 0 && i < 70; i++) {
            char letter = i < most ? LETTERS.charAt(below(13 + plain.told(0))) : "01abc".charAt(below(5));
            feed(below(120) == 0 ? about(256) : letter);
            open += "!".indexOf(letter) >= 0 ? 0 : "&|^=>".indexOf(letter) >= 0 ? 1 : "01abc".indexOf(letter) >= 0 ? -1 : 2;
            if (below(150) == 0) break;
        }
        if (below(40) == 0) feed(LETTERS.charAt(below(LETTERS.length())));
        due("tell()", real.tell(), plain.tell());
        due("fault()", real.fault(), plain.fault());
    }

    private void deed() {
        int f = some(), x = some(), y = some(), z = some(), n;
        switch (below(11)) {
            case 0: case 1: type(); return;
            case 2: due("put(" + f + ", " + x + ", " + y + ", " + z + ")", real.put(f, x, y, z), plain.put4(f, x, y, z)); return;
            case 3: due("turn(" + f + ")", real.turn(f), plain.turn(f)); return;
            case 4: case 5: due("take(" + f + ")", real.take(f), plain.take(f)); return;
            case 6: case 7:
                n = about(1 << plain.told(0));
                due("base(" + n + ")", real.base(n), plain.base(n));
                return;
            case 8:
                n = below(3) == 0 ? about(8) : 1;
                due("drift(" + n + ")", real.drift(n), plain.drift(n));
                return;
            default:
                n = below(3) == 0 ? about(19) : 1 + below(3);
                due("undo(" + n + ")", real.undo(n), plain.undo(n));
        }
    }

    private void image() {
        int i = about(2), v = below(4) == 0 ? about(1000) : random.nextInt() >>> 1;
        switch (below(4)) {
            case 0: due("seed(" + v + ")", real.seed(v), plain.seed(v)); return;
            case 1: due("keep(" + i + ")", real.keep(i), plain.keep(i)); return;
            default: due("goBack(" + i + ")", real.goBack(i), plain.goBack(i));
        }
    }

    private void bookCall() {
        int code = about(256), v = below(3) == 0 ? about(10) : plain.cost(code, 0);
        if (below(30) == 0) due("tear()", real.tear(), plain.tear());
        else due("write(" + code + ", " + v + ")", real.write(code, v), plain.write(code, v));
    }

    private void ask() {
        int k = about(46), l = about(46), i = about(5), code = about(256), what = about(8), f = some();
        switch (below(12)) {
            case 0: due("function(" + f + ", " + what + ")", real.function(f, what), plain.function(f, what)); return;
            case 1: i = about(12); due("fails(" + f + ", " + i + ")", real.fails(f, i), plain.fails(f, i)); return;
            case 2: due("cost(" + code + ", " + what + ")", real.cost(code, what), plain.cost(code, what)); return;
            case 3: i = about(12); due("spell(" + code + ", " + i + ")", real.spell(code, i), plain.spell(code, i)); return;
            case 4: i = about(12); due("costing(" + i + ")", real.costing(i), plain.costing(i)); return;
            case 5: due("place(" + k + ", " + i + ")", real.place(k, i), plain.place(k, i)); return;
            case 6: due("above(" + k + ", " + i + ")", real.above(k, i), plain.above(k, i)); return;
            case 7: due("below(" + k + ", " + i + ")", real.below(k, i), plain.below(k, i)); return;
            case 8: due("meet(" + k + ", " + l + ")", real.meet(k, l), plain.meet(k, l)); return;
            case 9: due("join(" + k + ", " + l + ")", real.join(k, l), plain.join(k, l)); return;
            case 10: relationCall(f); return;
            default: i = about(13); due("told(" + i + ")", real.told(i), plain.told(i));
        }
    }

    private void relationCall(int f) {
        int k = about(4), rows = about(below(2) == 0 ? 256 : 16), what = about(2);
        if (below(2) == 0) due("relation(" + k + ", " + rows + ", " + what + ")", real.relation(k, rows, what), plain.relation(k, rows, what));
        else due("keeps(" + f + ", " + k + ", " + rows + ")", real.keeps(f, k, rows), plain.keeps(f, k, rows));
    }

    private void run() {
        while (calls < 490) {
            int kind = below(20);
            if (kind < 7) deed();
            else if (kind < 8) image();
            else if (kind < 9) bookCall();
            else ask();
        }
    }

    public static void main(String[] args) {
        int runs = args.length > 1 ? Integer.parseInt(args[1]) : 150;
        int first = args.length > 2 ? Integer.parseInt(args[2]) : 0;
        AtomicLong calls = new AtomicLong();
        IntStream.range(first, first + runs).parallel().forEach(seed -> {
            RunsTest test = new RunsTest(seed);
            test.run();
            calls.addAndGet(test.calls);
        });
        System.out.println("RunsTest: " + runs + " runs, " + calls + " calls, all answers alike");
    }
}
