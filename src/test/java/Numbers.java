/** Numbers to call with that are no small right ones. */
final class Numbers {
    /**
     * The ends of int, numbers next to small ranges, and numbers that come back into a small range when they are
     * cut to 4, 8 or 16 bits, negated, used as a shift, or multiplied by 3, 4 or 16 without a look at them.
     */
    static final int[] ALL = {
        Integer.MIN_VALUE, Integer.MIN_VALUE + 1, Integer.MIN_VALUE + 2, -1431655765, -1431655764, -(1 << 30),
        -65535, -256, -255, -254, -64, -33, -32, -31, -22, -17, -16, -15, -14, -4, -3, -2, -1,
        0, 1, 2, 3, 4, 5, 6, 7, 8, 9, 10, 11, 12, 13, 14, 15, 16, 17, 18, 19, 20, 21, 22, 23, 24, 25, 26, 31, 32, 33,
        34, 35, 48, 64, 65, 255, 256, 257, 258, 259, 65536, 65537, 65538, 1 << 28, (1 << 28) + 1, 1 << 29, 1 << 30,
        (1 << 30) + 1, 1431655765, 1431655766, Integer.MAX_VALUE - 1, Integer.MAX_VALUE
    };

    private Numbers() {
    }

    static int[] outside(int least, int greatest) {
        return java.util.Arrays.stream(ALL).filter(number -> number < least || number > greatest).toArray();
    }
}
