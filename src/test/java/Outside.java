/**
 * Values outside each range: the first ones on both sides, the smallest and the greatest int, and
 * some that come back into the range, or onto other cells, where they are cut short, multiplied or
 * added up without having been looked at.
 */
final class Outside {
    static final int[] REGISTER = {-1, 6, Integer.MIN_VALUE, Integer.MAX_VALUE,
        -6, 42, 256, 65536, 1 << 30, 715827883, Integer.MIN_VALUE + 1, Integer.MAX_VALUE - 5};
    static final int[] FIELD = {-1, 3, Integer.MIN_VALUE, Integer.MAX_VALUE,
        -3, 4, 256, 65536, 1 << 30, 1431655766, Integer.MIN_VALUE + 2, Integer.MAX_VALUE - 2};
    static final int[] COLLECTOR = {-1, 7, Integer.MIN_VALUE, Integer.MAX_VALUE,
        -7, 8, 256, 65536, 1 << 30, 715827883, Integer.MIN_VALUE + 6, Integer.MAX_VALUE - 6};
    static final int[] NUMBER = {-1000, 1000, Integer.MIN_VALUE, Integer.MAX_VALUE,
        -1001, 1001, 1335, -2000, -3000, 65536, -65536, Integer.MIN_VALUE + 999};

    private Outside() {
    }
}
