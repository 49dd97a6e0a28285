/**
 * An image beside its model. Every call goes to both and the answers are compared; after each
 * call that may change something, so is all that can be seen of the two, and check() with it.
 */
final class Pair {
    /** Arguments that lie outside every range of the document, or at its edges. */
    static final int[] WRONG = {
        Integer.MIN_VALUE, Integer.MIN_VALUE + 1, -65, -64, -17, -16, -5, -4, -3, -2, -1,
        64, 65, 128, 129, 1 << 16, 1 << 30, Integer.MAX_VALUE - 1, Integer.MAX_VALUE
    };

    final QcowImage image;
    private final Model model;
    private final String name;
    private int calls = 0;

    Pair(String name, int l1Size) {
        this.name = name + ", l1Size " + l1Size;
        image = new QcowImage(l1Size);
        model = new Model(l1Size);
        sameViews("construction");
    }

    int words() {
        return model.guestWords();
    }

    int clusters() {
        return model.guestWords() / 4;
    }

    void write(int addr, int value) {
        String call = call("write(" + addr + ", " + value + ")");
        Due.due(call, image.write(addr, value), model.write(addr, value));
        sameViews(call);
    }

    void discard(int cluster) {
        String call = call("discard(" + cluster + ")");
        Due.due(call, image.discard(cluster), model.discard(cluster));
        sameViews(call);
    }

    void writeBacking(int addr, int value) {
        String call = call("writeBacking(" + addr + ", " + value + ")");
        Due.due(call, image.writeBacking(addr, value), model.writeBacking(addr, value));
        sameViews(call);
    }

    void snapshotCreate(int slot) {
        String call = call("snapshotCreate(" + slot + ")");
        Due.due(call, image.snapshotCreate(slot), model.snapshotCreate(slot));
        sameViews(call);
    }

    void snapshotDelete(int slot) {
        String call = call("snapshotDelete(" + slot + ")");
        Due.due(call, image.snapshotDelete(slot), model.snapshotDelete(slot));
        sameViews(call);
    }

    void snapshotApply(int slot) {
        String call = call("snapshotApply(" + slot + ")");
        Due.due(call, image.snapshotApply(slot), model.snapshotApply(slot));
        sameViews(call);
    }

    void commit() {
        String call = call("commit()");
        Due.due(call, image.commit(), model.commit());
        sameViews(call);
    }

    /** Asks every call that only reads, with arguments outside the ranges too. */
    void wrongReads() {
        for (int n : WRONG) {
            sameAt(call("wrong reads"), n);
            for (int slot = 0; slot < 4; slot++) {
                sameInSlot(call("wrong reads"), slot, n);
            }
            for (int inside = 0; inside < 4; inside++) {
                sameInSlot(call("wrong reads"), n, inside);
            }
        }
        sameViews(call("wrong reads"));
    }

    /** Makes every call that may change something, with arguments outside the ranges. */
    void wrongCalls() {
        for (int n : WRONG) {
            write(n, 77);
            writeBacking(n, 78);
            discard(n);
            snapshotCreate(n);
            snapshotApply(n);
            snapshotDelete(n);
        }
    }

    private String call(String call) {
        calls++;
        return name + ", call " + calls + ": " + call;
    }

    private void sameViews(String after) {
        Due.due(after + " then check()", image.check(), 0);
        Due.due(after + " then guestWords()", image.guestWords(), model.guestWords());
        Due.due(after + " then allocatedCount()", image.allocatedCount(), model.allocatedCount());
        for (int n = -2; n < words() + 2; n++) {
            sameAt(after, n);
        }
        for (int slot = -1; slot <= 4; slot++) {
            for (int n = -2; n < words() + 2; n++) {
                sameInSlot(after, slot, n);
            }
        }
    }

    private void sameAt(String after, int n) {
        same(after, "read", n, image.read(n), model.read(n));
        same(after, "readBacking", n, image.readBacking(n), model.readBacking(n));
        same(after, "isAllocated", n, image.isAllocated(n) ? 1 : 0, model.isAllocated(n) ? 1 : 0);
        same(after, "snapshotExists", n,
            image.snapshotExists(n) ? 1 : 0, model.snapshotExists(n) ? 1 : 0);
    }

    private void sameInSlot(String after, int slot, int n) {
        same(after, "readSnapshot " + slot, n,
            image.readSnapshot(slot, n), model.readSnapshot(slot, n));
        same(after, "isSnapshotAllocated " + slot, n,
            image.isSnapshotAllocated(slot, n) ? 1 : 0, model.isSnapshotAllocated(slot, n) ? 1 : 0);
    }

    private static void same(String after, String call, int n, int got, int want) {
        if (got != want) {
            Due.due(after + " then " + call + " " + n, got, want);
        }
    }
}
