/** Promise 16: commit. */
public final class CommitTest {
    public static void main(String[] args) {
        nothing();
        copies();
        all();
        besideSnapshots();
        Due.end();
    }

    private static void nothing() {
        Pair pair = new Pair("commit of nothing", 2);
        pair.commit();
        pair.writeBacking(3, 4);
        pair.commit();
        pair.write(0, 1);
        pair.snapshotCreate(0);
        pair.discard(0);
        pair.commit();
        Due.due("commit() of nothing", pair.image.commit(), 0);
        Due.due("readBacking(3)", pair.image.readBacking(3), 4);
        Due.due("readSnapshot(0, 0)", pair.image.readSnapshot(0, 0), 1);
    }

    private static void copies() {
        QcowImage x = new QcowImage(2);
        x.writeBacking(0, 100);
        x.writeBacking(5, 105);
        x.writeBacking(9, 109);
        x.write(4, 4);
        x.write(31, 0);
        x.writeBacking(5, 205);
        x.writeBacking(31, 231);
        Due.due("commit()", x.commit(), 2);
        Due.due("readBacking(0)", x.readBacking(0), 100);
        Due.due("readBacking(4)", x.readBacking(4), 4);
        Due.due("readBacking(5)", x.readBacking(5), 105);
        Due.due("readBacking(9)", x.readBacking(9), 109);
        Due.due("readBacking(31)", x.readBacking(31), 0);
        Due.due("read(5)", x.read(5), 105);
        Due.due("allocatedCount()", x.allocatedCount(), 0);
        Due.due("isAllocated(1)", x.isAllocated(1), false);
        Due.due("check()", x.check(), 0);
        x.writeBacking(4, 6);
        Due.due("read(4)", x.read(4), 6);
        Due.due("commit() again", x.commit(), 0);
    }

    private static void all() {
        for (int l1Size = 1; l1Size <= 4; l1Size++) {
            Pair pair = new Pair("commit of all", l1Size);
            for (int addr = 0; addr < pair.words(); addr++) {
                pair.write(addr, -addr);
            }
            int before = pair.image.allocatedCount();
            Due.due("allocatedCount()", before, pair.clusters());
            Due.due("commit()", pair.image.commit(), before);
            for (int addr = 0; addr < pair.words(); addr++) {
                Due.due("readBacking(" + addr + ")", pair.image.readBacking(addr), -addr);
                Due.due("read(" + addr + ")", pair.image.read(addr), -addr);
            }
            Due.due("allocatedCount()", pair.image.allocatedCount(), 0);
        }
    }

    private static void besideSnapshots() {
        Pair pair = new Pair("commit beside snapshots", 3);
        pair.write(0, 1);
        pair.write(20, 2);
        pair.snapshotCreate(0);
        pair.commit();
        pair.write(0, 3);
        pair.snapshotCreate(1);
        pair.write(4, 4);
        pair.commit();
        QcowImage x = pair.image;
        Due.due("readSnapshot(0, 0)", x.readSnapshot(0, 0), 1);
        Due.due("readSnapshot(0, 4)", x.readSnapshot(0, 4), 4);
        Due.due("readSnapshot(1, 0)", x.readSnapshot(1, 0), 3);
        Due.due("readSnapshot(1, 20)", x.readSnapshot(1, 20), 2);
        Due.due("isSnapshotAllocated(0, 5)", x.isSnapshotAllocated(0, 5), true);
        Due.due("isSnapshotAllocated(1, 5)", x.isSnapshotAllocated(1, 5), false);
        pair.snapshotApply(0);
        pair.commit();
        pair.snapshotDelete(0);
        pair.snapshotApply(1);
        pair.snapshotDelete(1);
        pair.commit();
    }
}
