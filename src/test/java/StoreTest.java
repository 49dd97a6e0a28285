import java.lang.reflect.Field;
import java.util.Arrays;

/**
 * Promise 17, and that the host store always has room. No call can bring the store into a state
 * in which check() answers anything but 0, so these tests spoil the private tables by hand.
 */
public final class StoreTest {
    private static final int ACTIVE_L1 = 16;

    public static void main(String[] args) throws ReflectiveOperationException {
        countsOfSharing();
        spoiledCounts();
        spoiledL1Entries();
        spoiledL2Entries();
        tablesOfTables();
        deadTablesDoNotCount();
        checkChangesNothing();
        emptiedStore();
        fullStore();
        Due.end();
    }

    private static int[] ints(QcowImage x, String name) throws ReflectiveOperationException {
        Field field = QcowImage.class.getDeclaredField(name);
        field.setAccessible(true);
        return (int[]) field.get(x);
    }

    private static int[] counts(QcowImage x) throws ReflectiveOperationException {
        return ints(x, "storedCounts");
    }

    private static int tableOf(QcowImage x, int l1Index) throws ReflectiveOperationException {
        return ints(x, "l1Entries")[ACTIVE_L1 + l1Index] - 1;
    }

    /** An image whose active L1 and two snapshots share a table with one data cluster. */
    private static QcowImage shared() {
        QcowImage x = new QcowImage(2);
        x.write(0, 1);
        x.snapshotCreate(0);
        x.snapshotCreate(2);
        return x;
    }

    private static void countsOfSharing() throws ReflectiveOperationException {
        QcowImage x = shared();
        int table = tableOf(x, 0);
        int data = ints(x, "hostWords")[4 * table] - 1;
        Due.due("count of a table that three views share", counts(x)[table], 3);
        Due.due("count of its data cluster", counts(x)[data], 1);
        x.write(4, 2);
        Due.due("count of the table after a copy", counts(x)[table], 2);
        Due.due("count of the data cluster in two tables", counts(x)[data], 2);
        Due.due("check()", x.check(), 0);
    }

    private static void spoiledCounts() throws ReflectiveOperationException {
        for (int host = 0; host < 128; host++) {
            QcowImage x = shared();
            counts(x)[host]++;
            Due.due("check() with a count too high at " + host, x.check(), 1);
            counts(x)[host] -= 2;
            Due.due("check() with a count too low at " + host, x.check(), 1);
            counts(x)[127 - host] += 5;
            Due.due("check() with two wrong counts", x.check(), 2);
        }
    }

    private static void spoiledL1Entries() throws ReflectiveOperationException {
        int[] strays = {-1, 129, Integer.MIN_VALUE, Integer.MAX_VALUE};
        for (int stray : strays) {
            QcowImage x = shared();
            ints(x, "l1Entries")[ACTIVE_L1 + 1] = stray;
            Due.due("check() with L1 entry " + stray, x.check(), 1);
            ints(x, "l1Entries")[1] = stray;
            Due.due("check() with two L1 entries " + stray, x.check(), 2);
            // The table is then named once less than its count says.
            ints(x, "l1Entries")[0] = stray;
            Due.due("check() with a lost table and " + stray, x.check(), 4);
        }
        QcowImage x = shared();
        ints(x, "l1Entries")[ACTIVE_L1 + 1] = 128;
        Due.due("check() with the last host cluster named", x.check(), 1);
        counts(x)[127] = 1;
        Due.due("check() with the last host cluster counted", x.check(), 0);
    }

    private static void spoiledL2Entries() throws ReflectiveOperationException {
        int[] strays = {-1, 129, Integer.MIN_VALUE, Integer.MAX_VALUE};
        for (int stray : strays) {
            QcowImage x = shared();
            int table = tableOf(x, 0);
            ints(x, "hostWords")[4 * table + 3] = stray;
            Due.due("check() with L2 entry " + stray, x.check(), 1);
            ints(x, "hostWords")[4 * table] = stray;
            Due.due("check() with a lost data cluster and " + stray, x.check(), 3);
        }
        QcowImage x = shared();
        ints(x, "hostWords")[4 * tableOf(x, 0) + 1] = 128;
        Due.due("check() with the last host cluster as data", x.check(), 1);
        counts(x)[127] = 1;
        Due.due("check() with the last host cluster counted", x.check(), 0);
    }

    private static void tablesOfTables() throws ReflectiveOperationException {
        QcowImage x = shared();
        int table = tableOf(x, 0);
        ints(x, "hostWords")[4 * table + 1] = table + 1;
        Due.due("check() with a table that names itself", x.check(), 1);
        counts(x)[table] = 4;
        Due.due("check() with that naming counted", x.check(), 0);
    }

    private static void deadTablesDoNotCount() throws ReflectiveOperationException {
        QcowImage x = shared();
        // Slot 1 holds no snapshot and the L1 tables have two entries.
        ints(x, "l1Entries")[4] = 1;
        ints(x, "l1Entries")[5] = 999;
        ints(x, "l1Entries")[ACTIVE_L1 + 2] = -7;
        ints(x, "l1Entries")[ACTIVE_L1 + 3] = 5;
        Due.due("check() with entries that are not live", x.check(), 0);
        // A table that a dead entry names too is live through the active image's.
        QcowImage y = new QcowImage(1);
        y.write(0, 1);
        ints(y, "l1Entries")[0] = tableOf(y, 0) + 1;
        Due.due("check() with a live table that a dead entry names", y.check(), 0);
    }

    private static void checkChangesNothing() throws ReflectiveOperationException {
        QcowImage x = shared();
        counts(x)[100] = 3;
        int[] countsBefore = counts(x).clone();
        int[] wordsBefore = ints(x, "hostWords").clone();
        int[] l1Before = ints(x, "l1Entries").clone();
        Due.due("check()", x.check(), 1);
        Due.due("check() again", x.check(), 1);
        Due.due("the counts stay", Arrays.equals(countsBefore, counts(x)), true);
        Due.due("the host words stay", Arrays.equals(wordsBefore, ints(x, "hostWords")), true);
        Due.due("the L1 tables stay", Arrays.equals(l1Before, ints(x, "l1Entries")), true);
    }

    private static void emptiedStore() throws ReflectiveOperationException {
        QcowImage x = new QcowImage(4);
        fill(x);
        for (int slot = 0; slot < 4; slot++) {
            x.snapshotDelete(slot);
        }
        x.commit();
        for (int host = 0; host < 128; host++) {
            Due.due("count of host cluster " + host + " in an emptied store", counts(x)[host], 0);
        }
    }

    /** Five views with every cluster of their own, time and again: nothing may leak. */
    private static void fullStore() {
        Pair pair = new Pair("full store", 4);
        for (int round = 0; round < 12; round++) {
            for (int slot = 0; slot < 4; slot++) {
                writeAll(pair, 1000 * round + 100 * slot);
                pair.snapshotDelete(slot);
                pair.snapshotCreate(slot);
            }
            writeAll(pair, 1000 * round + 500);
            if (round % 3 == 1) {
                pair.commit();
            }
            pair.snapshotApply(round % 4);
            pair.discard(round);
            pair.snapshotDelete((round + 1) % 4);
            pair.snapshotDelete((round + 2) % 4);
        }
        QcowImage x = new QcowImage(4);
        for (int round = 0; round < 2000; round++) {
            fill(x);
            Due.due("check() of a full store", x.check(), 0);
            for (int slot = 0; slot < 4; slot++) {
                Due.due("readSnapshot of a full store", x.readSnapshot(slot, 63), 100 * slot + 63);
                x.snapshotApply(slot);
                x.snapshotDelete(slot);
            }
            for (int cluster = 0; cluster < 16; cluster++) {
                x.discard(cluster);
            }
            Due.due("check() of an emptied store", x.check(), 0);
        }
    }

    private static void writeAll(Pair pair, int base) {
        for (int addr = 0; addr < pair.words(); addr += 4) {
            pair.write(addr + addr / 4 % 4, base + addr);
        }
    }

    private static void fill(QcowImage x) {
        for (int slot = 0; slot <= 4; slot++) {
            for (int addr = 0; addr < 64; addr++) {
                x.write(addr, 100 * slot + addr);
            }
            x.snapshotCreate(slot);
        }
    }
}
