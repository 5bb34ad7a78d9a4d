import java.util.TreeSet;

/** Arguments beyond the edges of a range. */
final class Edges {
    private static final int NEAR = 20;
    private static final long STRIDE = 16777213;

    private Edges() {
    }

    /**
     * Numbers outside low..high: the nearest ones, the extremes of int, some from all over int,
     * and those that a careless mask, cast or shift would bring back inside.
     */
    static int[] outside(int low, int high) {
        TreeSet<Integer> numbers = new TreeSet<>();
        for (int near = 0; near < NEAR; near++) {
            numbers.add(low - 1 - near);
            numbers.add(high + 1 + near);
            numbers.add(Integer.MIN_VALUE + near);
            numbers.add(Integer.MAX_VALUE - near);
        }
        for (long number = Integer.MIN_VALUE; number <= Integer.MAX_VALUE; number += STRIDE) {
            numbers.add((int) number);
        }
        for (int bit = 0; bit < 32; bit++) {
            for (int inside = low; inside <= high; inside++) {
                numbers.add(inside + (1 << bit));
                numbers.add(inside - (1 << bit));
            }
        }
        numbers.removeIf(number -> number >= low && number <= high);
        return numbers.stream().mapToInt(number -> number).toArray();
    }
}
