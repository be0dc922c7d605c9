import java.util.Set;
import java.util.TreeSet;

/** Arguments about the ends of a range. */
final class Bounds {
    /** Numbers outside low .. high: next to its ends, the ends of int, and some that would fold back into it. */
    static int[] outside(int low, int high) {
        Set<Integer> wrong = new TreeSet<>();
        for (int near = 1; near <= 3; near++) {
            wrong.add(low - near);
            wrong.add(high + near);
        }
        for (int step : new int[] {12, 32, 144, 256, 65536, 1 << 28, 1 << 30, Integer.MIN_VALUE}) {
            wrong.add(low + step);
            wrong.add(low - step);
            wrong.add(high + step);
            wrong.add(high - step);
        }
        // Twelve times this is 8 in an int: a row number that wraps around.
        wrong.add(357913942);
        wrong.add(-357913941);
        wrong.add(Integer.MIN_VALUE);
        wrong.add(Integer.MIN_VALUE + 1);
        wrong.add(Integer.MAX_VALUE - 1);
        wrong.add(Integer.MAX_VALUE);
        wrong.removeIf(n -> n >= low && n <= high);
        return wrong.stream().mapToInt(n -> n).toArray();
    }
}
