import java.util.Arrays;
import java.util.stream.IntStream;

/** Numbers that are not among 0 to count - 1: those next to it, the extreme ones, and some that wrap to good ones. */
final class Outside {
    private static final int[] SOME = {
        -1, -2, -20, -256, 10, 16, 20, 21, 32, 33, 64, 100, 256, 257, 65536, 65537,
        Integer.MIN_VALUE, Integer.MIN_VALUE + 1, Integer.MAX_VALUE, Integer.MAX_VALUE - 1,
    };

    private Outside() {
    }

    static int[] of(int count) {
        return IntStream.concat(IntStream.of(count, count + 1), Arrays.stream(SOME)).filter(n -> n < 0 || n >= count).toArray();
    }
}
