import java.util.stream.IntStream;

/** Arguments outside a range: beside its ends, at the ends of int, and those that wrap into it. */
final class Wrong {
    private Wrong() {
    }

    /** Below 0. Those above -4 divide to cluster 0, and those by a power of two wrap around. */
    static int[] below() {
        int[] near = IntStream.rangeClosed(-70, -1).toArray();
        int[] least = IntStream.range(0, 70).map(i -> Integer.MIN_VALUE + i).toArray();
        int[] wrapping = powers().map(power -> -power).toArray();
        int[] beside = powers().map(power -> 1 - power).filter(n -> n < 0).toArray();
        return Seen.join(near, least, wrapping, beside);
    }

    /** At the bound and above. */
    static int[] from(int bound) {
        int[] near = IntStream.range(bound, bound + 70).toArray();
        int[] most = IntStream.range(0, 70).map(i -> Integer.MAX_VALUE - i).toArray();
        int[] wrapping = powers().flatMap(power -> IntStream.range(0, 4).map(i -> power + i))
            .filter(n -> n >= bound).toArray();
        int[] beside = powers().map(power -> power - 1).filter(n -> n >= bound).toArray();
        return Seen.join(near, most, wrapping, beside);
    }

    static int[] outside(int bound) {
        return Seen.join(below(), from(bound));
    }

    private static IntStream powers() {
        return IntStream.range(0, 31).map(i -> 1 << i);
    }
}
