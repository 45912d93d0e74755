import java.util.ArrayList;
import java.util.Arrays;
import java.util.List;
import java.util.Random;
import java.util.concurrent.atomic.AtomicLong;

/** All costs, tops, parts and spellings of many bases, against those of Plain.Made, which tries all there is. */
public final class CostsTest {
    private static final int CALLS = 490;
    private static final AtomicLong ASKED = new AtomicLong();

    private final int set;
    private final int[] codes;
    private YesNoClones real;
    private int calls = CALLS;

    private CostsTest(int set, int[] codes) {
        this.set = set;
        this.codes = codes;
    }

    /** A new object when one has been asked as often as it may be. */
    private YesNoClones real() {
        if (calls++ >= CALLS) {
            calls = 0;
            real = Objects.with(codes);
            real.base(set);
        }
        return real;
    }

    private void due(String call, int got, int want) {
        ASKED.incrementAndGet();
        if (got != want) {
            System.out.println(Arrays.toString(codes) + " base " + set + ": " + call + " answered " + got + ", due is " + want);
            System.exit(1);
        }
    }

    private void check() {
        List<Integer> shelf = new ArrayList<>();
        for (int code : codes) shelf.add(code);
        Plain.Made made = new Plain.Made(set, shelf);
        int least = 0;
        while (made.cost[least] != made.greatest) least++;
        due("told(5)", real().told(5), made.made);
        due("told(6)", real().told(6), made.greatest);
        due("told(7)", real().told(7), least);
        for (int n = 0; n <= made.greatest + 2; n++) {
            int count = 0;
            for (int cost : made.cost) if (cost == n) count++;
            due("costing(" + n + ")", real().costing(n), count);
        }
        for (int code = 0; code < 256; code++) checkCode(made, code);
    }

    private void checkCode(Plain.Made made, int code) {
        boolean has = made.cost[code] > 0;
        String spelled = made.spelled(code);
        due("cost(" + code + ", 0)", real().cost(code, 0), made.cost[code]);
        due("cost(" + code + ", 1)", real().cost(code, 1), has ? made.top[code] : -1);
        for (int i = 0; i < 3; i++) due("cost(" + code + ", " + (2 + i) + ")", real().cost(code, 2 + i), has ? made.part(code, i) : -1);
        due("cost(" + code + ", 5)", real().cost(code, 5), spelled.isEmpty() ? -1 : spelled.length());
        for (int k = 0; k < spelled.length(); k++) due("spell(" + code + ", " + k + ")", real().spell(code, k), spelled.charAt(k));
        due("spell(" + code + ", " + spelled.length() + ")", real().spell(code, spelled.length()), -1);
    }

    public static void main(String[] args) {
        int drawn = args.length > 1 ? Integer.parseInt(args[1]) : 60;
        List<CostsTest> tests = new ArrayList<>();
        int[][] dear = {{0, 239}, {15, 136}, {3}, {5}, {1, 143}, {85, 168, 247}, {206, 1, 1}, {1, 253, 171}, {232, 15, 0}};
        for (int[] codes : dear) tests.add(new CostsTest((1 << codes.length) - 1, codes));
        for (int code = 0; code < 256; code += 5) tests.add(new CostsTest(1, new int[] {code}));
        Random random = new Random(7);
        for (int i = 0; i < drawn; i++) {
            int[] codes = new int[1 + random.nextInt(6)];
            for (int f = 0; f < codes.length; f++) codes[f] = random.nextInt(256);
            tests.add(new CostsTest(random.nextInt(1 << codes.length), codes));
        }
        tests.parallelStream().forEach(CostsTest::check);
        System.out.println("CostsTest: " + tests.size() + " bases, " + ASKED + " calls, all answers alike");
    }
}
