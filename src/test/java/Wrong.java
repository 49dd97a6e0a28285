import java.util.function.IntFunction;
import java.util.function.ToIntFunction;
import java.util.stream.IntStream;

/** Arguments outside a range: beside its ends, at the ends of int, and those that wrap into it. */
final class Wrong {
    private Wrong() {
    }

    /** Below 0. Those above -4 divide to cluster 0, and those by a power of two wrap around. */
    static int[] below() {
        int[] near = IntStream.rangeClosed(-70, -1).toArray();
        int[] least = IntStream.range(0, 70).map(i -> Integer.MIN_VALUE + i).toArray();
        int[] wrapping = powers().map(power -> -power).toArray();
        int[] beside = powers().map(power -> 1 - power).filter(n -> n < 0).toArray();
        return Seen.join(near, least, wrapping, beside);
    }

    /** At the bound and above. */
    static int[] from(int bound) {
        int[] near = IntStream.range(bound, bound + 70).toArray();
        int[] most = IntStream.range(0, 70).map(i -> Integer.MAX_VALUE - i).toArray();
        int[] wrapping = powers().flatMap(power -> IntStream.range(0, 4).map(i -> power + i))
            .filter(n -> n >= bound).toArray();
        int[] beside = powers().map(power -> power - 1).filter(n -> n >= bound).toArray();
        return Seen.join(near, most, wrapping, beside);
    }

    static int[] outside(int bound) {
        return Seen.join(below(), from(bound));
    }

    /** In every state a call with an argument below 0 answers 0 or false and changes nothing. */
    static void refusedBelow(IntFunction<Call> call) throws Exception {
        States.each((state, maker) -> refused(state, maker.make(), below(), call));
    }

    /** The same for an argument at the bound and above, such as W, G or SLOTS of the image. */
    static void refusedFrom(ToIntFunction<QcowImage> bound, IntFunction<Call> call) throws Exception {
        States.each((state, maker) -> {
            QcowImage x = maker.make();
            refused(state, x, from(bound.applyAsInt(x)), call);
        });
    }

    static void refused(String state, QcowImage x, int[] arguments, IntFunction<Call> call)
            throws IllegalAccessException {
        for (int argument : arguments) {
            Seen.unchanged(state, x, call.apply(argument), 0);
        }
    }

    private static IntStream powers() {
        return IntStream.range(0, 31).map(i -> 1 << i);
    }
}
