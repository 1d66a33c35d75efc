import java.util.TreeSet;

/** Numbers on and about the edges of what the document allows. */
final class Numbers {
    private Numbers() {
    }

    static int[] tables() {
        return new int[] {0, 1};
    }

    static int[] rowValues() {
        return new int[] {0, 1, 2, 3, 10, 11, 12};
    }

    static int[] unknowns() {
        return new int[] {10, 11, 12};
    }

    static int[] written() {
        return new int[] {0, 1, 2, 3};
    }

    static int[] constants() {
        return new int[] {0, 1, 2, 3, 4, 5, 6};
    }

    static int[] terms() {
        return new int[] {0, 1, 2, 3, 20, 21, 22, 23};
    }

    /**
     * Every number near the allowed ones that is not one of them, the ends of int, and the numbers
     * that differ from an allowed one in a high bit alone, which a narrowing or an overflow would let in.
     */
    static int[] outside(int... allowed) {
        TreeSet<Integer> numbers = new TreeSet<>();
        for (int n = -25; n <= 50; n++) {
            numbers.add(n);
        }
        for (int n : allowed) {
            numbers.add(n + 256);
            numbers.add(n - 256);
            numbers.add(n + 65536);
            numbers.add(n ^ Integer.MIN_VALUE);
        }
        numbers.add(Integer.MAX_VALUE);
        numbers.add(Integer.MAX_VALUE - 1);
        for (int n : allowed) {
            numbers.remove(n);
        }
        return numbers.stream().mapToInt(Integer::intValue).toArray();
    }
}
