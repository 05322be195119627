import java.util.stream.IntStream;
import java.util.stream.LongStream;

/** Values at the bounds of a range, beside them, and far off. */
final class Edge {
    private static final long WRAP = 1L << 32;

    private Edge() {
    }

    /** The bounds and what is next to them inside. */
    static int[] inside(int least, int most) {
        return IntStream.of(least, least + 1, most - 1, most)
                .filter(value -> value >= least && value <= most).distinct().toArray();
    }

    /** One below, one above, and the far ones, those too that are inside by their low bits. */
    static int[] outside(int least, int most) {
        return new int[] {least - 1, most + 1, least + 65536, Integer.MIN_VALUE, Integer.MAX_VALUE};
    }

    static long[] insideLongs(long least, long most) {
        return LongStream.of(least, least + 1, most - 1, most)
                .filter(value -> value >= least && value <= most).distinct().toArray();
    }

    static long[] outsideLongs(long least, long most) {
        return new long[] {least - 1, most + 1, least + WRAP, most - WRAP, Long.MIN_VALUE, Long.MAX_VALUE};
    }
}
