import java.util.ArrayList;
import java.util.List;

/** The sentences of 'What it is' that name a boundary, a test for each. */
public final class BoundaryCallsTest {
    private static final String WHAT = "What it is";

    public static void main(String[] args) {
        Due.holds(WHAT, "With l1Size in 1..4, W is one of 16, 32, 48, 64", BoundaryCallsTest::sizes);
        Due.holds(WHAT, "addressed 0..W-1", BoundaryCallsTest::addresses);
        Due.holds(WHAT, "Word a lies in guest cluster a / 4", BoundaryCallsTest::clusterOfWord);
        Due.holds(WHAT, "at offset a % 4", BoundaryCallsTest::offsetOfWord);
        Due.holds(WHAT, "entry c % 4 of the L2 table named by L1 entry c / 4",
            BoundaryCallsTest::entryOfCluster);
        Due.holds(WHAT, "the backing image, changed only by writeBacking and commit",
            BoundaryCallsTest::backingStays);
        Due.holds(WHAT, "unallocated words read as the backing image is at the time of the read",
            BoundaryCallsTest::activeFollowsBacking);
        Due.holds(WHAT, "up to SLOTS = 4 snapshots in slots 0..3", BoundaryCallsTest::fourSlots);
        Due.holds(WHAT, "A snapshot is a frozen copy", BoundaryCallsTest::frozenCopy);
        Due.holds(WHAT, "Its unallocated clusters likewise read the backing image",
            BoundaryCallsTest::snapshotFollowsBacking);
        Due.holds(WHAT, "host clusters numbered 0..127", BoundaryCallsTest::hostClusters);
        Due.holds(WHAT, "L1 entry 0 means no L2 table; entry h+1 names host cluster h",
            BoundaryCallsTest::l1Entries);
        Due.holds(WHAT, "L2 entry 0 means unallocated; entry h+1 means host cluster h",
            BoundaryCallsTest::l2Entries);
        Due.holds(WHAT, "Any change to a shared L2 table or data cluster first copies it",
            BoundaryCallsTest::copyOnWrite);
        Due.holds(WHAT, "The store always has room: no call ever fails", BoundaryCallsTest::room);
        Due.holds(WHAT, "no call acts otherwise for want of a free host cluster",
            BoundaryCallsTest::roomInEveryView);
        Due.holds("Not promised", "a host cluster whose count has fallen to 0 can be used again",
            BoundaryCallsTest::usedAgain);
        Due.holds(WHAT, "Any int argument is accepted; no call throws", BoundaryCallsTest::anyInt);
        Due.holds(WHAT, "A refused call answers as stated and changes nothing",
            BoundaryCallsTest::refusedCalls);
        Due.holds(WHAT, "conditions are considered in the order written", BoundaryCallsTest::order);
        Due.end();
    }

    private static void sizes() {
        int[] words = {16, 32, 48, 64};
        for (int l1Size = 1; l1Size <= 4; l1Size++) {
            QcowImage x = new QcowImage(l1Size);
            Due.due("W of l1Size " + l1Size, x.guestWords(), words[l1Size - 1]);
        }
    }

    private static void addresses() throws Exception {
        States.each((state, maker) -> {
            QcowImage x = maker.make();
            int words = x.guestWords();
            for (int addr = 0; addr < words; addr++) {
                Due.due(state + "write in range", x.write(addr, 1 + addr), true);
                Due.due(state + "read in range", x.read(addr), 1 + addr);
                Due.due(state + "writeBacking in range", x.writeBacking(addr, 2 + addr), true);
                Due.due(state + "readBacking in range", x.readBacking(addr), 2 + addr);
            }
            for (int addr : new int[] {-1, words}) {
                Due.due(state + "write outside", x.write(addr, 1), false);
                Due.due(state + "read outside", x.read(addr), 0);
                Due.due(state + "writeBacking outside", x.writeBacking(addr, 1), false);
                Due.due(state + "readBacking outside", x.readBacking(addr), 0);
            }
        });
    }

    private static void clusterOfWord() {
        for (int addr = 0; addr < 64; addr++) {
            QcowImage x = new QcowImage(4);
            x.write(addr, 5);
            x.snapshotCreate(1);
            for (int cluster = 0; cluster < 16; cluster++) {
                boolean own = 4 * cluster <= addr && addr <= 4 * cluster + 3;
                String asked = "(" + cluster + ") after write(" + addr + ")";
                Due.due("isAllocated" + asked, x.isAllocated(cluster), own);
                Due.due("isSnapshotAllocated" + asked, x.isSnapshotAllocated(1, cluster), own);
            }
        }
    }

    private static void offsetOfWord() {
        for (int addr = 0; addr < 64; addr++) {
            QcowImage x = States.make("shared", 4);
            x.write(addr, 5);
            for (int other = 0; other < 64; other++) {
                Due.due("read(" + other + ") after write(" + addr + ")",
                    x.read(other), other == addr ? 5 : 2000 + other);
            }
        }
    }

    private static void entryOfCluster() throws ReflectiveOperationException {
        for (int cluster = 0; cluster < 16; cluster++) {
            QcowImage x = new QcowImage(4);
            x.write(4 * cluster, 5);
            for (int i = 0; i < 4; i++) {
                Due.due("L1 entry " + i + " names a table, cluster " + cluster,
                    Store.l1(x)[Store.ACTIVE_L1 + i] != 0, i == cluster / 4);
                Due.due("L2 entry " + i + " names data, cluster " + cluster,
                    Store.words(x)[4 * Store.tableOf(x, cluster / 4) + i] != 0, i == cluster % 4);
            }
        }
    }

    private static void backingStays() throws Exception {
        States.each((state, maker) -> {
            for (Call call : allCalls(maker.make().guestWords())) {
                QcowImage x = maker.make();
                int[] before = Seen.backing(x);
                call.on(x);
                Due.same(state + "backing after " + call.text(), Seen.backing(x), before);
            }
        });
    }

    /** Every call in range but writeBacking and commit. */
    private static List<Call> allCalls(int words) {
        List<Call> calls = new ArrayList<>(Call.writes(words));
        calls.addAll(Call.discards(words));
        calls.addAll(Call.ofSlots());
        calls.addAll(Call.asking(0));
        return calls;
    }

    private static void activeFollowsBacking() {
        QcowImage x = new QcowImage(4);
        for (int addr = 0; addr < 64; addr++) {
            x.writeBacking(addr, 10 + addr);
            Due.due("read(" + addr + ")", x.read(addr), 10 + addr);
            x.writeBacking(addr, 300 + addr);
            Due.due("read(" + addr + ") later", x.read(addr), 300 + addr);
        }
    }

    private static void fourSlots() {
        QcowImage x = new QcowImage(1);
        for (int slot = 0; slot < 4; slot++) {
            x.write(0, 10 + slot);
            Due.due("snapshotCreate(" + slot + ")", x.snapshotCreate(slot), true);
        }
        x.write(0, 20);
        for (int slot = -1; slot <= 4; slot++) {
            Due.due("a fifth snapshot in slot " + slot, x.snapshotCreate(slot), false);
            boolean held = slot >= 0 && slot < 4;
            Due.due("snapshotExists(" + slot + ")", x.snapshotExists(slot), held);
            Due.due("readSnapshot(" + slot + ", 0)", x.readSnapshot(slot, 0), held ? 10 + slot : 0);
        }
    }

    private static void frozenCopy() {
        for (int clusters = 0; clusters <= 16; clusters++) {
            QcowImage x = new QcowImage(4);
            States.writeAllBacking(x, 1000);
            for (int cluster = 0; cluster < clusters; cluster++) {
                x.write(4 * cluster, 5);
            }
            int[] active = Seen.active(x);
            x.snapshotCreate(0);
            States.writeAll(x, 3000);
            Due.same("the snapshot of " + clusters + " allocated clusters",
                Seen.join(new int[] {clusters}, Seen.flags(x, 0), Seen.words(x, 0)), active);
        }
    }

    private static void snapshotFollowsBacking() {
        QcowImage x = States.make("snapshots of nothing", 4);
        for (int addr = 0; addr < 64; addr++) {
            Due.due("readSnapshot(1, " + addr + ")", x.readSnapshot(1, addr), 1000 + addr);
            x.writeBacking(addr, -addr);
            Due.due("readSnapshot(1, " + addr + ") later", x.readSnapshot(1, addr), -addr);
            Due.due("readSnapshot(3, " + addr + ") later", x.readSnapshot(3, addr), -addr);
        }
    }

    private static void hostClusters() throws ReflectiveOperationException {
        QcowImage x = new QcowImage(4);
        Due.due("HOST_CLUSTERS", QcowImage.HOST_CLUSTERS, 128);
        for (int host = 0; host < 128; host++) {
            Store.counts(x)[host] = 1;
            Due.due("check() with counts of 1 up to " + host, x.check(), host + 1);
        }
    }

    private static void l1Entries() throws ReflectiveOperationException {
        for (int host = 0; host < 128; host++) {
            QcowImage x = new QcowImage(4);
            Store.words(x)[4 * host + 2] = (host + 1) % 128 + 1;
            Due.due("isAllocated(14) with L1 entry 0", x.isAllocated(14), false);
            Store.l1(x)[Store.ACTIVE_L1 + 3] = host + 1;
            Due.due("isAllocated(14) with L1 entry " + (host + 1), x.isAllocated(14), true);
            Due.due("isAllocated(15) with L1 entry " + (host + 1), x.isAllocated(15), false);
        }
    }

    private static void l2Entries() throws ReflectiveOperationException {
        for (int host = 0; host < 128; host++) {
            QcowImage x = new QcowImage(1);
            x.writeBacking(7, 70);
            int table = (host + 1) % 128;
            Store.l1(x)[Store.ACTIVE_L1] = table + 1;
            Store.words(x)[4 * host + 3] = 71;
            Due.due("read(7) with L2 entry 0", x.read(7), 70);
            Store.words(x)[4 * table + 1] = host + 1;
            Due.due("read(7) with L2 entry " + (host + 1), x.read(7), 71);
        }
    }

    private static void copyOnWrite() throws Exception {
        for (int l1Size = 1; l1Size <= 4; l1Size++) {
            List<Call> calls = new ArrayList<>(Call.writes(16 * l1Size));
            calls.addAll(Call.discards(16 * l1Size));
            for (Call call : calls) {
                QcowImage x = States.make("shared", l1Size);
                int[] before = Seen.slots(x);
                Due.due(call.text(), call.on(x), 1);
                Due.same("the four snapshots after " + call.text(), Seen.slots(x), before);
                Due.due("check() after " + call.text(), x.check(), 0);
            }
        }
    }

    private static void room() {
        QcowImage x = States.make("full", 4);
        for (int round = 0; round < 500; round++) {
            int slot = round % 4;
            Due.due("snapshotDelete(" + slot + ")", x.snapshotDelete(slot), true);
            Due.due("snapshotCreate(" + slot + ")", x.snapshotCreate(slot), true);
            for (int addr = 0; addr < 64; addr++) {
                Due.due("write in a full store", x.write(addr, 100 * round + addr), true);
            }
            Due.due("allocatedCount() in a full store", x.allocatedCount(), 16);
            Due.due("check() in a full store", x.check(), 0);
        }
    }

    private static void roomInEveryView() {
        QcowImage x = States.make("full", 4);
        for (int round = 0; round < 100; round++) {
            for (int slot = 0; slot < 4; slot++) {
                x.snapshotDelete(slot);
                States.writeAll(x, 10000 * round + 1000 * slot);
                x.snapshotCreate(slot);
            }
            States.writeAll(x, 10000 * round + 4000);
            for (int addr = 0; addr < 64; addr++) {
                for (int slot = 0; slot < 4; slot++) {
                    Due.due("readSnapshot(" + slot + ", " + addr + ") in a full store",
                        x.readSnapshot(slot, addr), 10000 * round + 1000 * slot + addr);
                }
                Due.due("read(" + addr + ") in a full store", x.read(addr), 10000 * round + 4000 + addr);
                Due.due("readBacking(" + addr + ")", x.readBacking(addr), 1000 + addr);
            }
        }
    }

    /** Each way in which a host cluster's count falls to 0, more often than there are clusters. */
    private static void usedAgain() {
        QcowImage x = new QcowImage(1);
        for (int round = 1; round <= 400; round++) {
            x.write(0, round);
            x.snapshotCreate(0);
            x.write(0, -round);
            Due.due("readSnapshot(0, 0) in round " + round, x.readSnapshot(0, 0), round);
            Due.due("read(0) in round " + round, x.read(0), -round);
            switch (round % 4) {
                case 0 -> x.discard(0);
                case 1 -> x.commit();
                case 2 -> x.snapshotApply(0);
                default -> { }
            }
            x.snapshotDelete(0);
            Due.due("check() in round " + round, x.check(), 0);
        }
    }

    private static void anyInt() throws Exception {
        int[] any = Seen.join(Wrong.below(), new int[] {0, 1, 2, 3, 15}, Wrong.from(4));
        for (int n : any) {
            Due.due("check() of QcowImage(" + n + ")", new QcowImage(n).check(), 0);
        }
        States.each((state, maker) -> {
            QcowImage x = maker.make();
            for (int n : any) {
                for (int m : new int[] {Integer.MIN_VALUE, -1, 0, 3, 4, 16, 64, Integer.MAX_VALUE, n}) {
                    Call.readSnapshot(n, m).on(x);
                    Call.readSnapshot(m, n).on(x);
                    Call.isSnapshotAllocated(n, m).on(x);
                    Call.isSnapshotAllocated(m, n).on(x);
                    Call.write(n, m).on(x);
                    Call.writeBacking(n, m).on(x);
                }
                Call.asking(n).forEach(call -> call.on(x));
                Call.changing(n).forEach(call -> call.on(x));
            }
            Due.due(state + "check() after calls with any int", x.check(), 0);
        });
    }

    private static void refusedCalls() throws Exception {
        States.each((state, maker) -> {
            QcowImage x = maker.make();
            int words = x.guestWords();
            for (int addr : Wrong.outside(words)) {
                Seen.unchanged(state, x, Call.write(addr, 7), 0);
                Seen.unchanged(state, x, Call.writeBacking(addr, 7), 0);
            }
            for (int cluster : Wrong.outside(words / 4)) {
                Seen.unchanged(state, x, Call.discard(cluster), 0);
            }
            for (int slot : Wrong.outside(4)) {
                Seen.unchanged(state, x, Call.create(slot), 0);
                Seen.unchanged(state, x, Call.delete(slot), 0);
                Seen.unchanged(state, x, Call.apply(slot), 0);
            }
            for (int slot = 0; slot < 4; slot++) {
                if (x.snapshotExists(slot)) {
                    Seen.unchanged(state, x, Call.create(slot), 0);
                } else {
                    Seen.unchanged(state, x, Call.delete(slot), 0);
                    Seen.unchanged(state, x, Call.apply(slot), 0);
                }
            }
        });
    }

    /** Where two or three conditions hold at once, the first one keeps the others from harm. */
    private static void order() throws Exception {
        States.each((state, maker) -> {
            QcowImage x = maker.make();
            int words = x.guestWords();
            for (int slot : Wrong.outside(4)) {
                for (int n : new int[] {Integer.MIN_VALUE, -1, 0, words - 1, words, Integer.MAX_VALUE}) {
                    Due.due(state + "readSnapshot(" + slot + ", " + n + ")", x.readSnapshot(slot, n), 0);
                    Due.due(state + "isSnapshotAllocated(" + slot + ", " + n + ")",
                        x.isSnapshotAllocated(slot, n), false);
                }
            }
            for (int slot = 0; slot < 4; slot++) {
                for (int n : Wrong.outside(words)) {
                    Due.due(state + "readSnapshot(" + slot + ", " + n + ")", x.readSnapshot(slot, n), 0);
                    Due.due(state + "isSnapshotAllocated(" + slot + ", " + n + ")",
                        x.isSnapshotAllocated(slot, n), false);
                }
            }
        });
    }
}
