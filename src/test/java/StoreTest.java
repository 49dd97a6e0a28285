import java.util.Arrays;

/**
 * Promise 17, and that the host store always has room. No call can bring the store into a state
 * in which check() answers anything but 0, so these tests spoil the private tables by hand.
 */
public final class StoreTest {
    public static void main(String[] args) throws ReflectiveOperationException {
        countsOfSharing();
        spoiledCounts();
        spoiledL1Entries();
        spoiledL2Entries();
        tablesOfTables();
        deadTablesDoNotCount();
        checkChangesNothing();
        emptiedStore();
        fullStore();
        Due.holds("LANGUAGE.md, rule 7", "No call may ever throw, in any state", StoreTest::spoiledStore);
        Due.end();
    }

    /** An image whose active L1 and two snapshots share a table with one data cluster. */
    private static QcowImage shared() {
        QcowImage x = new QcowImage(2);
        x.write(0, 1);
        x.snapshotCreate(0);
        x.snapshotCreate(2);
        return x;
    }

    private static void countsOfSharing() throws ReflectiveOperationException {
        QcowImage x = shared();
        int table = Store.tableOf(x, 0);
        int data = Store.words(x)[4 * table] - 1;
        Due.due("count of a table that three views share", Store.counts(x)[table], 3);
        Due.due("count of its data cluster", Store.counts(x)[data], 1);
        x.write(4, 2);
        Due.due("count of the table after a copy", Store.counts(x)[table], 2);
        Due.due("count of the data cluster in two tables", Store.counts(x)[data], 2);
        Due.due("check()", x.check(), 0);
    }

    private static void spoiledCounts() throws ReflectiveOperationException {
        for (int host = 0; host < 128; host++) {
            QcowImage x = shared();
            Store.counts(x)[host]++;
            Due.due("check() with a count too high at " + host, x.check(), 1);
            Store.counts(x)[host] -= 2;
            Due.due("check() with a count too low at " + host, x.check(), 1);
            Store.counts(x)[127 - host] += 5;
            Due.due("check() with two wrong counts", x.check(), 2);
        }
    }

    private static void spoiledL1Entries() throws ReflectiveOperationException {
        int[] strays = {-1, 129, Integer.MIN_VALUE, Integer.MAX_VALUE};
        for (int stray : strays) {
            QcowImage x = shared();
            Store.l1(x)[Store.ACTIVE_L1 + 1] = stray;
            Due.due("check() with L1 entry " + stray, x.check(), 1);
            Store.l1(x)[1] = stray;
            Due.due("check() with two L1 entries " + stray, x.check(), 2);
            // The table is then named once less than its count says.
            Store.l1(x)[0] = stray;
            Due.due("check() with a lost table and " + stray, x.check(), 4);
        }
        QcowImage x = shared();
        Store.l1(x)[Store.ACTIVE_L1 + 1] = 128;
        Due.due("check() with the last host cluster named", x.check(), 1);
        Store.counts(x)[127] = 1;
        Due.due("check() with the last host cluster counted", x.check(), 0);
    }

    private static void spoiledL2Entries() throws ReflectiveOperationException {
        int[] strays = {-1, 129, Integer.MIN_VALUE, Integer.MAX_VALUE};
        for (int stray : strays) {
            QcowImage x = shared();
            int table = Store.tableOf(x, 0);
            Store.words(x)[4 * table + 3] = stray;
            Due.due("check() with L2 entry " + stray, x.check(), 1);
            Store.words(x)[4 * table] = stray;
            Due.due("check() with a lost data cluster and " + stray, x.check(), 3);
        }
        QcowImage x = shared();
        Store.words(x)[4 * Store.tableOf(x, 0) + 1] = 128;
        Due.due("check() with the last host cluster as data", x.check(), 1);
        Store.counts(x)[127] = 1;
        Due.due("check() with the last host cluster counted", x.check(), 0);
    }

    private static void tablesOfTables() throws ReflectiveOperationException {
        QcowImage x = shared();
        int table = Store.tableOf(x, 0);
        Store.words(x)[4 * table + 1] = table + 1;
        Due.due("check() with a table that names itself", x.check(), 1);
        Store.counts(x)[table] = 4;
        Due.due("check() with that naming counted", x.check(), 0);
    }

    private static void deadTablesDoNotCount() throws ReflectiveOperationException {
        QcowImage x = shared();
        // Slot 1 holds no snapshot and the L1 tables have two entries.
        Store.l1(x)[4] = 1;
        Store.l1(x)[5] = 999;
        Store.l1(x)[Store.ACTIVE_L1 + 2] = -7;
        Store.l1(x)[Store.ACTIVE_L1 + 3] = 5;
        Due.due("check() with entries that are not live", x.check(), 0);
        // A table that a dead entry names too is live through the active image's.
        QcowImage y = new QcowImage(1);
        y.write(0, 1);
        Store.l1(y)[0] = Store.tableOf(y, 0) + 1;
        Due.due("check() with a live table that a dead entry names", y.check(), 0);
    }

    private static void checkChangesNothing() throws ReflectiveOperationException {
        QcowImage x = shared();
        Store.counts(x)[100] = 3;
        int[] countsBefore = Store.counts(x).clone();
        int[] wordsBefore = Store.words(x).clone();
        int[] l1Before = Store.l1(x).clone();
        Due.due("check()", x.check(), 1);
        Due.due("check() again", x.check(), 1);
        Due.due("the counts stay", Arrays.equals(countsBefore, Store.counts(x)), true);
        Due.due("the host words stay", Arrays.equals(wordsBefore, Store.words(x)), true);
        Due.due("the L1 tables stay", Arrays.equals(l1Before, Store.l1(x)), true);
    }

    private static void emptiedStore() throws ReflectiveOperationException {
        QcowImage x = new QcowImage(4);
        fill(x);
        for (int slot = 0; slot < 4; slot++) {
            x.snapshotDelete(slot);
        }
        x.commit();
        for (int host = 0; host < 128; host++) {
            Due.due("count of host cluster " + host + " in an emptied store", Store.counts(x)[host], 0);
        }
    }

    /** Five views with every cluster of their own, time and again: nothing may leak. */
    private static void fullStore() {
        Pair pair = new Pair("full store", 4);
        for (int round = 0; round < 12; round++) {
            for (int slot = 0; slot < 4; slot++) {
                writeAll(pair, 1000 * round + 100 * slot);
                pair.snapshotDelete(slot);
                pair.snapshotCreate(slot);
            }
            writeAll(pair, 1000 * round + 500);
            if (round % 3 == 1) {
                pair.commit();
            }
            pair.snapshotApply(round % 4);
            pair.discard(round);
            pair.snapshotDelete((round + 1) % 4);
            pair.snapshotDelete((round + 2) % 4);
        }
        QcowImage x = new QcowImage(4);
        for (int round = 0; round < 2000; round++) {
            fill(x);
            Due.due("check() of a full store", x.check(), 0);
            for (int slot = 0; slot < 4; slot++) {
                Due.due("readSnapshot of a full store", x.readSnapshot(slot, 63), 100 * slot + 63);
                x.snapshotApply(slot);
                x.snapshotDelete(slot);
            }
            for (int cluster = 0; cluster < 16; cluster++) {
                x.discard(cluster);
            }
            Due.due("check() of an emptied store", x.check(), 0);
        }
    }

    private static void writeAll(Pair pair, int base) {
        for (int addr = 0; addr < pair.words(); addr += 4) {
            pair.write(addr + addr / 4 % 4, base + addr);
        }
    }

    private static void fill(QcowImage x) {
        for (int slot = 0; slot <= 4; slot++) {
            for (int addr = 0; addr < 64; addr++) {
                x.write(addr, 100 * slot + addr);
            }
            x.snapshotCreate(slot);
        }
    }

    /** No call leads to such a store, but none may go astray in one. */
    private static void spoiledStore() throws Exception {
        int[] entries = {Integer.MIN_VALUE, -1, 129, 1000, Integer.MAX_VALUE};
        States.each((state, maker) -> {
            for (int entry : entries) {
                QcowImage tables = maker.make();
                Arrays.fill(Store.l1(tables), entry);
                callAll(state, tables);
                QcowImage data = maker.make();
                Arrays.fill(Store.words(data), entry);
                callAll(state, data);
                QcowImage counts = maker.make();
                Arrays.fill(Store.counts(counts), entry);
                callAll(state, counts);
            }
        });
    }

    private static void callAll(String state, QcowImage x) {
        for (int n = -1; n <= 64; n++) {
            for (Call call : Call.asking(n)) {
                call.on(x);
            }
            for (Call call : Call.changing(n)) {
                call.on(x);
            }
        }
        Due.due(state + "the spoiled image still answers", x.guestWords() % 16, 0);
    }
}
