import java.lang.reflect.Field;
import java.lang.reflect.Modifier;
import java.util.Arrays;
import java.util.function.Function;
import java.util.stream.IntStream;

/** What can be seen of an image, view by view, as rows of numbers that can be compared. */
final class Seen {
    private Seen() {
    }

    /** The active image's count, flags and words. */
    static int[] active(QcowImage x) {
        int words = x.guestWords();
        return join(
            new int[] {x.allocatedCount()},
            IntStream.range(0, words / 4).map(c -> bit(x.isAllocated(c))).toArray(),
            IntStream.range(0, words).map(x::read).toArray());
    }

    static int[] backing(QcowImage x) {
        return IntStream.range(0, x.guestWords()).map(x::readBacking).toArray();
    }

    /** Whether the slot holds a snapshot, and that one's flags and words. */
    static int[] slot(QcowImage x, int slot) {
        return join(new int[] {bit(x.snapshotExists(slot))}, flags(x, slot), words(x, slot));
    }

    static int[] flags(QcowImage x, int slot) {
        return IntStream.range(0, x.guestWords() / 4)
            .map(c -> bit(x.isSnapshotAllocated(slot, c))).toArray();
    }

    static int[] words(QcowImage x, int slot) {
        return IntStream.range(0, x.guestWords()).map(a -> x.readSnapshot(slot, a)).toArray();
    }

    static int[] slots(QcowImage x) {
        return join(slot(x, 0), slot(x, 1), slot(x, 2), slot(x, 3));
    }

    static int[] all(QcowImage x) {
        return join(new int[] {x.guestWords(), x.check()}, active(x), backing(x), slots(x));
    }

    /** Every field of the image, whatever its name, so that no hidden change is missed. */
    static int[] inside(QcowImage x) throws IllegalAccessException {
        int[] seen = {};
        for (Field field : QcowImage.class.getDeclaredFields()) {
            if (!Modifier.isStatic(field.getModifiers())) {
                field.setAccessible(true);
                seen = join(seen, numbers(field.get(x)));
            }
        }
        return seen;
    }

    /** That a call gives the answer and changes nothing at all. */
    static void unchanged(String state, QcowImage x, Call call, int want)
            throws IllegalAccessException {
        int[] all = all(x);
        int[] inside = inside(x);
        Due.due(state + call.text(), call.on(x), want);
        Due.same(state + "all that is seen after " + call.text(), all(x), all);
        Due.same(state + "the inside after " + call.text(), inside(x), inside);
    }

    /** That a call changes nothing at all, so that it gives the same answer again. */
    static void unchanged(String state, QcowImage x, Call call) throws IllegalAccessException {
        int answer = call.on(x);
        unchanged(state, x, call, answer);
    }

    /** That a call leaves one view, or several, as they were. */
    static void stays(String state, QcowImage x, Call call, Function<QcowImage, int[]> view) {
        int[] before = view.apply(x);
        call.on(x);
        Due.same(state + "what must stay after " + call.text(), view.apply(x), before);
    }

    static int bit(boolean answer) {
        return answer ? 1 : 0;
    }

    static int[] join(int[]... rows) {
        return Arrays.stream(rows).flatMapToInt(IntStream::of).toArray();
    }

    private static int[] numbers(Object value) {
        if (value instanceof int[] row) {
            return row;
        }
        if (value instanceof boolean[] row) {
            return IntStream.range(0, row.length).map(i -> bit(row[i])).toArray();
        }
        return new int[] {value.hashCode()};
    }
}
