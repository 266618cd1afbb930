/** Numbers and objects that several tests start from. */
final class Given {
    private Given() {
    }

    /**
     * Numbers that are not from .. to: those beside the range, those that would wrap around into it
     * if only the last bits were looked at, and the smallest and the greatest ones that there are.
     */
    static int[] outside(int from, int to) {
        return new int[] {
            Integer.MIN_VALUE, Integer.MIN_VALUE + 1, from - 65536, from - 256, from - 32, from - 1,
            to + 1, to + 32, to + 256, to + 65536, Integer.MAX_VALUE - 1, Integer.MAX_VALUE};
    }

    /** Polynomial 0 is x, the others are 0: cells 0 to 2 have its signs -1, 0 and 1. */
    static RealSigns oneMark() {
        RealSigns x = new RealSigns();
        x.set(0, 0, 1, 0);
        return x;
    }

    /** Polynomial k is x x - (k + 1) squared: the marks are -4, -3, -2, -1, 1, 2, 3 and 4. */
    static RealSigns eightMarks() {
        RealSigns x = new RealSigns();
        for (int k = 0; k < 4; k++) {
            x.set(k, 1, 0, -(k + 1) * (k + 1));
        }
        return x;
    }
}
