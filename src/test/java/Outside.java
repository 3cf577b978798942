/** Numbers that are out of a range. */
final class Outside {
    private Outside() {
    }

    /**
     * The numbers next to the range, and far ones: the ends of int, and numbers that would come
     * back into the range if they were doubled, masked or cut down to a byte or a short.
     */
    static int[] of(int low, int high) {
        return new int[] {
            low - 1, high + 1, Integer.MIN_VALUE, Integer.MIN_VALUE + high, Integer.MAX_VALUE,
            low + 16, low + 256, high + 65536, high - 256, 1 << 30
        };
    }
}
