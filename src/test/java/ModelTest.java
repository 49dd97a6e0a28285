/**
 * Long mixed runs of calls against the model, the same ones every time. All that can be seen is
 * compared after each call, so a call that changes another view than its own is found at once.
 */
public final class ModelTest {
    private static final int CALLS = 4000;

    private long state;

    public static void main(String[] args) {
        for (int l1Size = 0; l1Size <= 5; l1Size++) {
            for (int seed = 1; seed <= 3; seed++) {
                new ModelTest(100 * l1Size + seed).mixedRun(l1Size);
            }
        }
        everyShortRun();
        Due.end();
    }

    private ModelTest(long seed) {
        state = seed;
    }

    private int next(int bound) {
        state = state * 6364136223846793005L + 1442695040888963407L;
        return (int) ((state >>> 33) % bound);
    }

    private void mixedRun(int l1Size) {
        Pair pair = new Pair("mixed run " + state, l1Size);
        for (int i = 0; i < CALLS; i++) {
            mixedCall(pair);
        }
    }

    private void mixedCall(Pair pair) {
        int kind = next(40);
        if (kind < 16) {
            pair.write(argument(pair.words()), value());
        } else if (kind < 22) {
            pair.discard(argument(pair.clusters()));
        } else if (kind < 26) {
            pair.writeBacking(argument(pair.words()), value());
        } else if (kind < 31) {
            pair.snapshotCreate(argument(4));
        } else if (kind < 35) {
            pair.snapshotDelete(argument(4));
        } else if (kind < 39) {
            pair.snapshotApply(argument(4));
        } else {
            pair.commit();
        }
    }

    private int argument(int bound) {
        int kind = next(30);
        if (kind == 0) {
            return Pair.WRONG[next(Pair.WRONG.length)];
        }
        return kind == 1 ? bound : kind == 2 ? -1 : next(bound);
    }

    private int value() {
        int kind = next(8);
        return kind == 0 ? 0 : kind == 1 ? -next(200) : kind == 2 ? Integer.MIN_VALUE : next(1000);
    }

    /** Every run of five calls out of nine on the smallest image. */
    private static void everyShortRun() {
        int kinds = 9;
        for (int code = 0; code < kinds * kinds * kinds * kinds * kinds; code++) {
            Pair pair = new Pair("short run " + code, 1);
            int rest = code;
            for (int i = 0; i < 5; i++) {
                shortCall(pair, rest % kinds, 10 + i);
                rest /= kinds;
            }
        }
    }

    private static void shortCall(Pair pair, int kind, int value) {
        switch (kind) {
            case 0 -> pair.write(1, value);
            case 1 -> pair.write(6, value);
            case 2 -> pair.discard(0);
            case 3 -> pair.writeBacking(2, value);
            case 4 -> pair.snapshotCreate(0);
            case 5 -> pair.snapshotCreate(1);
            case 6 -> pair.snapshotDelete(0);
            case 7 -> pair.snapshotApply(0);
            default -> pair.commit();
        }
    }
}
