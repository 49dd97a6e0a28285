/** Promises 1 to 9: construction, the active image and the backing image. */
public final class ImageTest {
    private static final int MIN = Integer.MIN_VALUE;
    private static final int MAX = Integer.MAX_VALUE;

    public static void main(String[] args) {
        construction();
        guestWords();
        writeCopiesBackingIn();
        writeTakesAnyValue();
        writeSparesSnapshots();
        wrongAddresses();
        readFollowsBacking();
        discard();
        discardSparesSnapshots();
        backing();
        allocation();
        Due.end();
    }

    // Promise 1
    private static void construction() {
        int[] given = {MIN, MIN + 1, -5, -1, 0, 1, 2, 3, 4, 5, 9, 1 << 28, 1 << 30, MAX - 1, MAX};
        int[] clamped = {1, 1, 1, 1, 1, 1, 2, 3, 4, 4, 4, 4, 4, 4, 4};
        for (int i = 0; i < given.length; i++) {
            String made = "QcowImage(" + given[i] + ") then ";
            QcowImage x = new QcowImage(given[i]);
            int words = 16 * clamped[i];
            Due.due(made + "check()", x.check(), 0);
            Due.due(made + "guestWords()", x.guestWords(), words);
            Due.due(made + "allocatedCount()", x.allocatedCount(), 0);
            for (int addr = 0; addr < words; addr++) {
                Due.due(made + "read(" + addr + ")", x.read(addr), 0);
                Due.due(made + "readBacking(" + addr + ")", x.readBacking(addr), 0);
            }
            for (int cluster = 0; cluster < words / 4; cluster++) {
                Due.due(made + "isAllocated(" + cluster + ")", x.isAllocated(cluster), false);
            }
            for (int slot = 0; slot < 4; slot++) {
                Due.due(made + "snapshotExists(" + slot + ")", x.snapshotExists(slot), false);
            }
            edgesOfSize(made, x, words);
        }
    }

    private static void edgesOfSize(String made, QcowImage x, int words) {
        Due.due(made + "write at the last word", x.write(words - 1, 1), true);
        Due.due(made + "write behind the last word", x.write(words, 1), false);
        Due.due(made + "writeBacking at the last word", x.writeBacking(words - 1, 1), true);
        Due.due(made + "writeBacking behind the last word", x.writeBacking(words, 1), false);
        Due.due(made + "isAllocated of the last cluster", x.isAllocated(words / 4 - 1), true);
        Due.due(made + "isAllocated behind the last cluster", x.isAllocated(words / 4), false);
        Due.due(made + "discard behind the last cluster", x.discard(words / 4), false);
        Due.due(made + "discard of the last cluster", x.discard(words / 4 - 1), true);
    }

    // Promise 2
    private static void guestWords() {
        for (int l1Size = 1; l1Size <= 4; l1Size++) {
            QcowImage x = new QcowImage(l1Size);
            Due.due("guestWords()", x.guestWords(), 16 * l1Size);
            x.write(3, 4);
            x.snapshotCreate(1);
            x.commit();
            Due.due("guestWords() again", x.guestWords(), 16 * l1Size);
            Due.due("guestWords() once more", x.guestWords(), 16 * l1Size);
        }
    }

    // Promise 3
    private static void writeCopiesBackingIn() {
        QcowImage x = new QcowImage(2);
        for (int addr = 0; addr < 32; addr++) {
            x.writeBacking(addr, 100 + addr);
        }
        Due.due("write(17, 5)", x.write(17, 5), true);
        Due.due("allocatedCount()", x.allocatedCount(), 1);
        Due.due("isAllocated(4)", x.isAllocated(4), true);
        for (int addr = 0; addr < 32; addr++) {
            Due.due("read(" + addr + ")", x.read(addr), addr == 17 ? 5 : 100 + addr);
            Due.due("readBacking(" + addr + ")", x.readBacking(addr), 100 + addr);
        }
        // The words copied in are the active image's own from now on.
        x.writeBacking(16, 1);
        x.writeBacking(20, 2);
        Due.due("read(16)", x.read(16), 116);
        Due.due("read(20)", x.read(20), 2);
        // Allocated already: the backing image is not copied in again.
        Due.due("write(18, 6)", x.write(18, 6), true);
        Due.due("read(16)", x.read(16), 116);
        Due.due("read(17)", x.read(17), 5);
        Due.due("read(18)", x.read(18), 6);
        Due.due("check()", x.check(), 0);
    }

    private static void writeTakesAnyValue() {
        int[] values = {0, 1, -1, 129, 128, MIN, MAX};
        for (int value : values) {
            Pair pair = new Pair("any value", 1);
            pair.writeBacking(6, 9);
            pair.write(6, value);
            pair.write(7, value);
            pair.snapshotCreate(0);
            pair.write(6, 3);
            pair.write(5, value);
            pair.writeBacking(12, value);
            pair.commit();
        }
        QcowImage x = new QcowImage(1);
        Due.due("write(0, 0)", x.write(0, 0), true);
        Due.due("isAllocated(0)", x.isAllocated(0), true);
        x.writeBacking(0, 8);
        Due.due("read(0)", x.read(0), 0);
    }

    private static void writeSparesSnapshots() {
        QcowImage x = new QcowImage(1);
        x.write(0, 10);
        x.write(4, 14);
        x.snapshotCreate(0);
        x.write(0, 20);
        x.snapshotCreate(1);
        x.write(0, 30);
        x.write(1, 31);
        x.write(8, 38);
        Due.due("readSnapshot(0, 0)", x.readSnapshot(0, 0), 10);
        Due.due("readSnapshot(0, 1)", x.readSnapshot(0, 1), 0);
        Due.due("readSnapshot(0, 4)", x.readSnapshot(0, 4), 14);
        Due.due("readSnapshot(1, 0)", x.readSnapshot(1, 0), 20);
        Due.due("readSnapshot(1, 1)", x.readSnapshot(1, 1), 0);
        Due.due("isSnapshotAllocated(1, 2)", x.isSnapshotAllocated(1, 2), false);
        Due.due("read(0)", x.read(0), 30);
        Due.due("read(1)", x.read(1), 31);
        Due.due("read(4)", x.read(4), 14);
        Due.due("check()", x.check(), 0);
    }

    // Promises 3 to 8, refused
    private static void wrongAddresses() {
        for (int l1Size = 1; l1Size <= 4; l1Size++) {
            Pair pair = new Pair("wrong arguments", l1Size);
            for (int addr = 0; addr < pair.words(); addr += 3) {
                pair.writeBacking(addr, 500 + addr);
            }
            pair.write(0, 1);
            pair.write(pair.words() - 1, 2);
            pair.snapshotCreate(0);
            pair.snapshotCreate(3);
            pair.write(1, 3);
            pair.wrongCalls();
            pair.wrongReads();
            for (int over = 0; over < 6; over++) {
                pair.write(pair.words() + over, 9);
                pair.writeBacking(pair.words() + over, 9);
                pair.discard(pair.clusters() + over);
                pair.write(-1 - over, 9);
                pair.writeBacking(-1 - over, 9);
                pair.discard(-1 - over);
            }
        }
    }

    // Promise 4
    private static void readFollowsBacking() {
        QcowImage x = new QcowImage(1);
        x.writeBacking(9, 1);
        Due.due("read(9)", x.read(9), 1);
        x.writeBacking(9, 2);
        Due.due("read(9)", x.read(9), 2);
        Due.due("read(9) again", x.read(9), 2);
        Due.due("isAllocated(2)", x.isAllocated(2), false);
        x.write(9, 3);
        Due.due("read(9)", x.read(9), 3);
        Due.due("read(-1)", x.read(-1), 0);
        Due.due("read(16)", x.read(16), 0);
        Due.due("read(MIN)", x.read(MIN), 0);
        Due.due("read(MAX)", x.read(MAX), 0);
    }

    // Promise 5
    private static void discard() {
        QcowImage x = new QcowImage(3);
        Due.due("discard(7)", x.discard(7), false);
        x.writeBacking(29, 4);
        x.write(28, 1);
        x.write(24, 2);
        x.writeBacking(28, 3);
        Due.due("discard(7)", x.discard(7), true);
        Due.due("isAllocated(7)", x.isAllocated(7), false);
        Due.due("isAllocated(6)", x.isAllocated(6), true);
        Due.due("read(28)", x.read(28), 3);
        Due.due("read(29)", x.read(29), 4);
        Due.due("read(24)", x.read(24), 2);
        Due.due("discard(7)", x.discard(7), false);
        Due.due("discard(11)", x.discard(11), false);
        Due.due("discard(12)", x.discard(12), false);
        Due.due("discard(-1)", x.discard(-1), false);
        Due.due("check()", x.check(), 0);
        // The former words are gone: what is copied in is the backing image.
        x.write(30, 6);
        Due.due("read(28)", x.read(28), 3);
        Due.due("read(29)", x.read(29), 4);
        Due.due("allocatedCount()", x.allocatedCount(), 2);
        Due.due("check()", x.check(), 0);
    }

    private static void discardSparesSnapshots() {
        Pair pair = new Pair("discard beside snapshots", 2);
        for (int addr = 0; addr < pair.words(); addr += 2) {
            pair.write(addr, 10 + addr);
        }
        pair.snapshotCreate(2);
        pair.discard(1);
        pair.snapshotCreate(0);
        pair.discard(1);
        pair.discard(2);
        pair.discard(7);
        pair.write(5, 1);
        pair.discard(1);
        pair.snapshotDelete(2);
        pair.discard(0);
        pair.snapshotApply(0);
    }

    // Promises 6 and 7
    private static void backing() {
        Pair pair = new Pair("backing", 2);
        pair.write(4, 1);
        pair.snapshotCreate(1);
        pair.write(8, 2);
        for (int addr = 0; addr < pair.words(); addr++) {
            pair.writeBacking(addr, 1000 + addr);
        }
        pair.writeBacking(0, MIN);
        pair.writeBacking(31, MAX);
        QcowImage x = pair.image;
        Due.due("readBacking(0)", x.readBacking(0), MIN);
        Due.due("readBacking(31)", x.readBacking(31), MAX);
        Due.due("readBacking(32)", x.readBacking(32), 0);
        Due.due("readBacking(-1)", x.readBacking(-1), 0);
        Due.due("read(0)", x.read(0), MIN);
        Due.due("read(4)", x.read(4), 1);
        Due.due("read(9)", x.read(9), 0);
        Due.due("readSnapshot(1, 9)", x.readSnapshot(1, 9), 1009);
        Due.due("readSnapshot(1, 5)", x.readSnapshot(1, 5), 0);
    }

    // Promises 8 and 9
    private static void allocation() {
        for (int l1Size = 1; l1Size <= 4; l1Size++) {
            QcowImage x = new QcowImage(l1Size);
            int clusters = 4 * l1Size;
            for (int cluster = 0; cluster < clusters; cluster++) {
                Due.due("isAllocated before", x.isAllocated(cluster), false);
                x.write(4 * cluster + cluster % 4, 0);
                Due.due("isAllocated after", x.isAllocated(cluster), true);
                Due.due("allocatedCount()", x.allocatedCount(), cluster + 1);
            }
            x.write(0, 3);
            Due.due("allocatedCount() of all", x.allocatedCount(), clusters);
            Due.due("isAllocated(G)", x.isAllocated(clusters), false);
            Due.due("isAllocated(-1)", x.isAllocated(-1), false);
            Due.due("isAllocated(MIN)", x.isAllocated(MIN), false);
            Due.due("isAllocated(MAX)", x.isAllocated(MAX), false);
            for (int cluster = clusters - 1; cluster >= 0; cluster--) {
                x.discard(cluster);
                Due.due("allocatedCount() down", x.allocatedCount(), cluster);
            }
        }
    }
}
