import java.util.Arrays;

/** Numbers that are not in a range. */
final class Outside {
    /** Some of these fall into a range if their sign, upper bits or a carry is lost. */
    private static final int[] FAR_OUT = {
        Integer.MIN_VALUE, Integer.MIN_VALUE + 1, Integer.MIN_VALUE + 3, -2147483641,
        -1000000, -65535, -255, -128, -100, -32, -10, -7,
        10, 16, 32, 35, 64, 100, 128, 257, 1000, 65537, 1000000, 1 << 30,
        // Seven times these is 3 and 4 once the carry is lost.
        613566757, -613566756,
        Integer.MAX_VALUE - 1, Integer.MAX_VALUE};

    private Outside() {
    }

    /** Just outside, on both sides, and far outside, up to the smallest and the greatest int. */
    static int[] of(int low, int high) {
        int[] just = {low - 2, low - 1, high + 1, high + 2};
        int[] far = Arrays.stream(FAR_OUT).filter(n -> n < low || n > high).toArray();
        int[] all = Arrays.copyOf(just, just.length + far.length);
        System.arraycopy(far, 0, all, just.length, far.length);
        return all;
    }
}
