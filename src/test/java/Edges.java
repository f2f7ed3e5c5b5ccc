import java.util.stream.IntStream;

/**
 * Wrong inputs: the nearest on either side, the least and the greatest int, and numbers that turn into
 * good ones where a shift, a remainder, a narrower type or a change of sign wraps them around.
 */
final class Edges {
    static final int LEAST_INT = Integer.MIN_VALUE;
    static final int MOST_INT = Integer.MAX_VALUE;

    static final int[] NO_NUMBERS = {
        LEAST_INT, LEAST_INT + 1, LEAST_INT + 4, -65536, -256, -64, -32, -31, -28, -7, -2, -1,
        7, 8, 11, 14, 31, 32, 33, 36, 38, 64, 256, 258, 65536, 65540, MOST_INT - 31, MOST_INT,
    };
    static final int[] NO_SLOTS = {
        LEAST_INT, LEAST_INT + 3, -65536, -256, -32, -12, -11, -2, -1,
        12, 13, 15, 16, 19, 24, 32, 35, 43, 256, 259, 65536, 65547, MOST_INT - 15, MOST_INT,
    };
    static final int[] NO_WORTHS = {
        LEAST_INT, LEAST_INT + 5, -65531, -251, -20, -5, -2, -1, 0,
        21, 22, 31, 32, 37, 64, 256, 261, 65536, 65541, MOST_INT - 20, MOST_INT,
    };
    static final int[] NO_ROOMS = {
        LEAST_INT, LEAST_INT + 2, -65535, -255, -32, -4, -3, -2, -1,
        4, 5, 6, 7, 8, 33, 256, 257, 65536, 65538, MOST_INT - 3, MOST_INT,
    };

    private Edges() {
    }

    static int[] everyNumber() {
        return IntStream.concat(IntStream.range(0, 7), IntStream.of(NO_NUMBERS)).toArray();
    }

    static int[] everySlot() {
        return IntStream.concat(IntStream.range(0, 12), IntStream.of(NO_SLOTS)).toArray();
    }
}
