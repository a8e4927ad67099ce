import java.util.Set;
import java.util.TreeSet;

/** Ints at and beyond the ends of a range. */
final class Range {
    // What a mask, a narrower type or a lost sign would take off.
    private static final int[] WRAPS = {16, 32, 64, 128, 256, 65536, 1 << 30, Integer.MIN_VALUE};

    private Range() {
    }

    /** Ints outside low..high: next to it, far from it, and some that wrap around into it. */
    static int[] outside(int low, int high) {
        Set<Integer> found = new TreeSet<>();
        for (int i : new int[] {low - 1, low - 2, high + 1, high + 2, Integer.MIN_VALUE, Integer.MAX_VALUE}) {
            found.add(i);
        }
        for (int wrap : WRAPS) {
            for (int end : new int[] {low, high}) {
                found.add(end + wrap);
                found.add(end - wrap);
                found.add(-end);
            }
        }
        return found.stream().filter(i -> i < low || i > high).mapToInt(i -> i).toArray();
    }
}
