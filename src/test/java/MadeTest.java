import java.util.ArrayDeque;
import java.util.ArrayList;
import java.util.Deque;
import java.util.HashMap;
import java.util.HashSet;
import java.util.List;
import java.util.Map;
import java.util.Set;
import java.util.stream.IntStream;

/**
 * What the class takes for granted: a base makes just the functions IN the place of its common traits. No base makes
 * just a, b, c, the functions of the last place; and where a base makes just those of a place, this goes through all
 * functions that may come to it. So it holds for all bases.
 */
public final class MadeTest {
    /** All that these make, by putting them on what is made until nothing new comes. */
    private static boolean[] madeOf(List<Integer> base) {
        boolean[] made = new boolean[256];
        List<Integer> list = new ArrayList<>(List.of(240, 204, 170));
        for (int v : list) made[v] = true;
        for (int latest = 0; latest < list.size() && list.size() < 256; latest++) {
            for (int f : base) {
                for (int i = 0; i <= latest; i++)
                    for (int j = 0; j <= latest && list.size() < 256; j++) {
                        int x = list.get(latest), y = list.get(i), z = list.get(j);
                        int[] codes = {Plain.fastPut(f, x, y, z), Plain.fastPut(f, y, x, z), Plain.fastPut(f, y, z, x)};
                        for (int code : codes)
                            if (!made[code]) {
                                made[code] = true;
                                list.add(code);
                            }
                    }
            }
        }
        return made;
    }

    private static boolean isJustPlace(boolean[] made, int set) {
        for (int code = 0; code < 256; code++) if (made[code] != ((Plain.TRAITS[code] & set) == set)) return false;
        return true;
    }

    public static void main(String[] args) {
        Map<Integer, List<Integer>> bases = new HashMap<>();
        Deque<Integer> open = new ArrayDeque<>();
        bases.put(4095, List.of());
        open.add(4095);
        int wrong = isJustPlace(madeOf(List.of()), 4095) ? 0 : 1;
        int tried = 1;
        while (!open.isEmpty()) {
            int set = open.remove();
            List<Integer> base = bases.get(set);
            // a function of the place brings nothing new, as what is made is closed
            int[] others = IntStream.range(0, 256).filter(f -> (Plain.TRAITS[f] & set) != set).toArray();
            boolean[] fits = new boolean[256];
            IntStream.of(others).parallel().forEach(f -> {
                List<Integer> more = new ArrayList<>(base);
                more.add(f);
                fits[f] = isJustPlace(madeOf(more), set & Plain.TRAITS[f]);
            });
            for (int f : others) {
                tried++;
                if (!fits[f]) {
                    wrong++;
                    System.out.println(base + " and " + f + " do not make just their place");
                }
                int next = set & Plain.TRAITS[f];
                if (!bases.containsKey(next)) {
                    List<Integer> more = new ArrayList<>(base);
                    more.add(f);
                    bases.put(next, more);
                    open.add(next);
                }
            }
        }
        Set<Integer> places = new HashSet<>(Plain.PLACES);
        if (!places.equals(bases.keySet())) {
            wrong++;
            System.out.println("not all places were come to");
        }
        System.out.println("MadeTest: " + tried + " bases, " + wrong + " wrong");
        if (wrong > 0) System.exit(1);
    }
}
