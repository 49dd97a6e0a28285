/** Promises 10 to 15: the snapshots. */
public final class SnapshotTest {
    private static final int MIN = Integer.MIN_VALUE;
    private static final int MAX = Integer.MAX_VALUE;

    public static void main(String[] args) {
        create();
        createRefused();
        delete();
        deleteRefused();
        apply();
        applyRefused();
        exists();
        readOrder();
        stability();
        flagsStay();
        wrongArguments();
        Due.end();
    }

    // Promise 10
    private static void create() {
        for (int slot = 0; slot < 4; slot++) {
            Pair pair = new Pair("create", 2);
            pair.writeBacking(0, 5);
            pair.snapshotCreate(slot);
            pair.write(1, 6);
            pair.snapshotCreate((slot + 1) % 4);
            pair.write(1, 7);
            pair.write(31, 8);
            pair.snapshotCreate((slot + 2) % 4);
            pair.discard(0);
            pair.snapshotCreate((slot + 3) % 4);
            pair.write(1, 9);
            QcowImage x = pair.image;
            Due.due("first snapshot", x.readSnapshot(slot, 1), 0);
            Due.due("second snapshot", x.readSnapshot((slot + 1) % 4, 1), 6);
            Due.due("third snapshot", x.readSnapshot((slot + 2) % 4, 1), 7);
            Due.due("fourth snapshot", x.readSnapshot((slot + 3) % 4, 1), 0);
            Due.due("active", x.read(1), 9);
        }
    }

    private static void createRefused() {
        QcowImage x = new QcowImage(1);
        x.write(0, 1);
        Due.due("snapshotCreate(2)", x.snapshotCreate(2), true);
        x.write(0, 2);
        Due.due("snapshotCreate(2) again", x.snapshotCreate(2), false);
        Due.due("readSnapshot(2, 0)", x.readSnapshot(2, 0), 1);
        Due.due("snapshotCreate(-1)", x.snapshotCreate(-1), false);
        Due.due("snapshotCreate(4)", x.snapshotCreate(4), false);
        Due.due("snapshotCreate(MIN)", x.snapshotCreate(MIN), false);
        Due.due("snapshotCreate(MAX)", x.snapshotCreate(MAX), false);
        Due.due("read(0)", x.read(0), 2);
        Due.due("check()", x.check(), 0);
    }

    // Promise 11
    private static void delete() {
        Pair pair = new Pair("delete", 3);
        pair.write(0, 1);
        pair.write(20, 2);
        pair.snapshotCreate(0);
        pair.snapshotCreate(1);
        pair.write(0, 3);
        pair.snapshotCreate(2);
        pair.snapshotDelete(0);
        pair.snapshotDelete(1);
        pair.write(1, 4);
        pair.snapshotCreate(0);
        pair.snapshotDelete(2);
        pair.write(21, 5);
        QcowImage x = pair.image;
        Due.due("snapshotExists(0)", x.snapshotExists(0), true);
        Due.due("snapshotExists(1)", x.snapshotExists(1), false);
        Due.due("snapshotExists(2)", x.snapshotExists(2), false);
        Due.due("readSnapshot(0, 1)", x.readSnapshot(0, 1), 4);
        Due.due("readSnapshot(1, 0)", x.readSnapshot(1, 0), 0);
        Due.due("isSnapshotAllocated(1, 0)", x.isSnapshotAllocated(1, 0), false);
        Due.due("read(21)", x.read(21), 5);
    }

    private static void deleteRefused() {
        QcowImage x = new QcowImage(1);
        for (int slot = 0; slot < 4; slot++) {
            Due.due("snapshotDelete of an empty slot", x.snapshotDelete(slot), false);
        }
        x.snapshotCreate(3);
        Due.due("snapshotDelete(4)", x.snapshotDelete(4), false);
        Due.due("snapshotDelete(-1)", x.snapshotDelete(-1), false);
        Due.due("snapshotDelete(MIN)", x.snapshotDelete(MIN), false);
        Due.due("snapshotDelete(MAX)", x.snapshotDelete(MAX), false);
        Due.due("snapshotExists(3)", x.snapshotExists(3), true);
        Due.due("snapshotDelete(3)", x.snapshotDelete(3), true);
        Due.due("snapshotDelete(3) again", x.snapshotDelete(3), false);
        Due.due("check()", x.check(), 0);
    }

    // Promise 12
    private static void apply() {
        Pair pair = new Pair("apply", 2);
        pair.writeBacking(4, 40);
        pair.write(0, 1);
        pair.snapshotCreate(1);
        pair.write(0, 2);
        pair.write(4, 3);
        pair.write(16, 4);
        pair.snapshotCreate(3);
        pair.snapshotApply(1);
        QcowImage x = pair.image;
        Due.due("read(0)", x.read(0), 1);
        Due.due("read(4)", x.read(4), 40);
        Due.due("read(16)", x.read(16), 0);
        Due.due("allocatedCount()", x.allocatedCount(), 1);
        pair.snapshotApply(1);
        pair.write(0, 5);
        pair.write(17, 6);
        Due.due("readSnapshot(1, 0)", x.readSnapshot(1, 0), 1);
        Due.due("isSnapshotAllocated(1, 4)", x.isSnapshotAllocated(1, 4), false);
        pair.discard(0);
        pair.snapshotApply(3);
        pair.snapshotDelete(3);
        pair.write(16, 7);
        pair.writeBacking(8, 80);
        Due.due("read(0)", x.read(0), 2);
        Due.due("read(8)", x.read(8), 80);
        // The only copy of what was active is lost, and the store with it freed.
        pair.snapshotDelete(1);
        pair.snapshotCreate(2);
        pair.write(30, 1);
        pair.snapshotApply(2);
        pair.snapshotDelete(2);
        pair.commit();
    }

    private static void applyRefused() {
        Pair pair = new Pair("apply refused", 1);
        pair.write(0, 1);
        for (int slot = 0; slot < 4; slot++) {
            pair.snapshotApply(slot);
        }
        pair.snapshotCreate(0);
        pair.write(0, 2);
        pair.snapshotApply(-1);
        pair.snapshotApply(4);
        pair.snapshotApply(5);
        pair.snapshotApply(MIN);
        pair.snapshotApply(MAX);
        pair.snapshotApply(1);
        pair.snapshotDelete(0);
        pair.snapshotApply(0);
        Due.due("read(0)", pair.image.read(0), 2);
    }

    // Promise 13
    private static void exists() {
        QcowImage x = new QcowImage(4);
        for (int slot = 0; slot < 4; slot++) {
            Due.due("snapshotExists before", x.snapshotExists(slot), false);
            x.snapshotCreate(slot);
            Due.due("snapshotExists after", x.snapshotExists(slot), true);
        }
        x.snapshotDelete(1);
        Due.due("snapshotExists(0)", x.snapshotExists(0), true);
        Due.due("snapshotExists(1)", x.snapshotExists(1), false);
        Due.due("snapshotExists(2)", x.snapshotExists(2), true);
        for (int wrong : Pair.WRONG) {
            Due.due("snapshotExists(" + wrong + ")", x.snapshotExists(wrong), false);
        }
        Due.due("snapshotExists(4)", x.snapshotExists(4), false);
    }

    // Promises 14 and 15: fixed answers
    private static void readOrder() {
        QcowImage x = new QcowImage(1);
        x.writeBacking(0, 9);
        x.write(4, 8);
        x.snapshotCreate(0);
        Due.due("readSnapshot(0, 0)", x.readSnapshot(0, 0), 9);
        Due.due("readSnapshot(0, 4)", x.readSnapshot(0, 4), 8);
        Due.due("readSnapshot(1, 0)", x.readSnapshot(1, 0), 0);
        Due.due("readSnapshot(4, 0)", x.readSnapshot(4, 0), 0);
        Due.due("readSnapshot(-1, 0)", x.readSnapshot(-1, 0), 0);
        Due.due("readSnapshot(4, 4)", x.readSnapshot(4, 4), 0);
        Due.due("readSnapshot(0, -1)", x.readSnapshot(0, -1), 0);
        Due.due("readSnapshot(0, 16)", x.readSnapshot(0, 16), 0);
        Due.due("readSnapshot(MIN, MAX)", x.readSnapshot(MIN, MAX), 0);
        Due.due("isSnapshotAllocated(0, 1)", x.isSnapshotAllocated(0, 1), true);
        Due.due("isSnapshotAllocated(0, 0)", x.isSnapshotAllocated(0, 0), false);
        Due.due("isSnapshotAllocated(1, 1)", x.isSnapshotAllocated(1, 1), false);
        Due.due("isSnapshotAllocated(4, 1)", x.isSnapshotAllocated(4, 1), false);
        Due.due("isSnapshotAllocated(-1, 1)", x.isSnapshotAllocated(-1, 1), false);
        Due.due("isSnapshotAllocated(0, 4)", x.isSnapshotAllocated(0, 4), false);
        Due.due("isSnapshotAllocated(0, -1)", x.isSnapshotAllocated(0, -1), false);
        Due.due("isSnapshotAllocated(MAX, MIN)", x.isSnapshotAllocated(MAX, MIN), false);
    }

    // Promise 14: what may change a snapshot, and where
    private static void stability() {
        QcowImage x = new QcowImage(1);
        x.write(0, 1);
        x.snapshotCreate(0);
        x.write(0, 2);
        x.write(4, 3);
        x.discard(0);
        x.snapshotCreate(1);
        x.snapshotApply(1);
        x.snapshotDelete(1);
        Due.due("readSnapshot(0, 0)", x.readSnapshot(0, 0), 1);
        Due.due("readSnapshot(0, 4)", x.readSnapshot(0, 4), 0);
        x.writeBacking(0, 50);
        x.writeBacking(5, 51);
        Due.due("readSnapshot(0, 0)", x.readSnapshot(0, 0), 1);
        Due.due("readSnapshot(0, 5)", x.readSnapshot(0, 5), 51);
        Due.due("commit()", x.commit(), 1);
        Due.due("readSnapshot(0, 0)", x.readSnapshot(0, 0), 1);
        Due.due("readSnapshot(0, 4)", x.readSnapshot(0, 4), 3);
        Due.due("readSnapshot(0, 5)", x.readSnapshot(0, 5), 0);
    }

    // Promise 15
    private static void flagsStay() {
        QcowImage x = new QcowImage(2);
        x.write(4, 0);
        x.write(28, 0);
        x.snapshotCreate(3);
        x.discard(1);
        x.write(8, 1);
        x.writeBacking(8, 2);
        x.writeBacking(4, 2);
        x.commit();
        x.snapshotCreate(0);
        x.snapshotApply(0);
        for (int cluster = 0; cluster < 8; cluster++) {
            Due.due("isSnapshotAllocated(3, " + cluster + ")",
                x.isSnapshotAllocated(3, cluster), cluster == 1 || cluster == 7);
            Due.due("isSnapshotAllocated(0, " + cluster + ")",
                x.isSnapshotAllocated(0, cluster), false);
        }
        x.snapshotDelete(3);
        Due.due("isSnapshotAllocated(3, 1)", x.isSnapshotAllocated(3, 1), false);
    }

    private static void wrongArguments() {
        for (int l1Size = 1; l1Size <= 4; l1Size++) {
            Pair pair = new Pair("wrong arguments of snapshots", l1Size);
            for (int slot = 0; slot < 4; slot++) {
                pair.wrongReads();
                pair.write(slot, 10 + slot);
                pair.write(pair.words() - 1 - slot, 20 + slot);
                pair.writeBacking(slot + 4, 30 + slot);
                pair.snapshotCreate(slot);
                pair.wrongCalls();
            }
            pair.wrongReads();
        }
    }
}
