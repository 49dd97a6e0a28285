import java.util.ArrayList;
import java.util.List;
import java.util.stream.IntStream;

/** The sentences of promises 16 and 17 that name a boundary, a test for each. */
public final class BoundaryCommitTest {
    public static void main(String[] args) {
        commit();
        check();
        Due.end();
    }

    private static void commit() {
        String promise = "Promise 16";
        Due.holds(promise, "is never refused", () -> States.each((state, maker) -> {
            QcowImage x = maker.make();
            for (int round = 0; round < 3; round++) {
                x.write(0, 70 + round);
                Due.due(state + "commit() in round " + round + " did something", x.commit() > 0, true);
                Due.due(state + "readBacking(0)", x.readBacking(0), 70 + round);
            }
        }));
        Due.holds(promise, "each allocated cluster, from 0 to G-1: the backing's 4 words become the active's 4",
            () -> {
                for (int l1Size = 1; l1Size <= 4; l1Size++) {
                    for (int cluster = 0; cluster < 4 * l1Size; cluster++) {
                        copiesCluster(l1Size, cluster);
                    }
                }
            });
        Due.holds(promise, "Then every cluster of the active image becomes unallocated",
            () -> States.each((state, maker) -> {
                QcowImage x = maker.make();
                x.commit();
                for (int cluster = 0; cluster < x.guestWords() / 4; cluster++) {
                    Due.due(state + "isAllocated(" + cluster + ")", x.isAllocated(cluster), false);
                }
            }));
        Due.holds(promise, "Answers the number of clusters copied, equal to allocatedCount() just before",
            () -> States.each((state, maker) -> {
                QcowImage x = maker.make();
                int count = x.allocatedCount();
                Due.due(state + "commit()", x.commit(), count);
            }));
        Due.holds(promise, "a value in 0..G: G when all are allocated", () -> {
            for (int l1Size = 1; l1Size <= 4; l1Size++) {
                Due.due("commit() of a full image", States.make("full", l1Size).commit(), 4 * l1Size);
                Due.due("commit() of a shared image", States.make("shared", l1Size).commit(), 4 * l1Size);
            }
        });
        Due.holds(promise, "Right after the call readBacking(a) == v(a)",
            () -> States.each((state, maker) -> {
            QcowImage x = maker.make();
            int[] v = IntStream.range(0, x.guestWords()).map(x::read).toArray();
            x.commit();
            Due.same(state + "the backing image", Seen.backing(x), v);
        }));
        Due.holds(promise, "and read(a) == v(a)", () -> States.each((state, maker) -> {
            QcowImage x = maker.make();
            int[] v = IntStream.range(0, x.guestWords()).map(x::read).toArray();
            x.commit();
            Due.same(state + "read", IntStream.range(0, v.length).map(x::read).toArray(), v);
        }));
        Due.holds(promise, "and allocatedCount() == 0", () -> States.each((state, maker) -> {
            QcowImage x = maker.make();
            x.commit();
            Due.due(state + "allocatedCount()", x.allocatedCount(), 0);
        }));
        Due.holds(promise, "Backing words of clusters that were unallocated keep their values",
            () -> States.each((state, maker) -> {
                QcowImage x = maker.make();
                for (int cluster = 0; cluster < x.guestWords() / 4; cluster += 2) {
                    x.discard(cluster);
                }
                int[] before = Seen.backing(x);
                x.commit();
                for (int addr = 0; addr < before.length; addr++) {
                    if (addr / 4 % 2 == 0) {
                        Due.due(state + "readBacking(" + addr + ")", x.readBacking(addr), before[addr]);
                    }
                }
            }));
        Due.holds(promise, "Snapshots keep their allocation flags",
            () -> States.each((state, maker) -> {
            QcowImage x = maker.make();
            for (int slot = 0; slot < 4; slot++) {
                int[] before = Seen.flags(x, slot);
                x.commit();
                Due.same(state + "flags of slot " + slot, Seen.flags(x, slot), before);
                x.write(0, 5);
                x.commit();
                Due.same(state + "flags of slot " + slot + " later", Seen.flags(x, slot), before);
            }
        }));
        Due.holds(promise, "Snapshots keep their allocated contents",
            () -> States.each((state, maker) -> {
            QcowImage before = maker.make();
            QcowImage x = maker.make();
            x.commit();
            // What the commit let go of must not be what a snapshot still uses.
            States.writeAll(x, 8000);
            x.commit();
            for (int addr = 0; addr < x.guestWords(); addr++) {
                for (int slot = 0; slot < 4; slot++) {
                    if (before.isSnapshotAllocated(slot, addr / 4)) {
                        Due.due(state + "readSnapshot(" + slot + ", " + addr + ")",
                            x.readSnapshot(slot, addr), before.readSnapshot(slot, addr));
                    } else {
                        Due.due(state + "the slot's word " + addr + " is its own",
                            x.isSnapshotAllocated(slot, addr / 4), false);
                    }
                }
            }
        }));
        Due.holds(promise, "their unallocated clusters now read the new backing image", () -> {
            for (int l1Size = 1; l1Size <= 4; l1Size++) {
                QcowImage x = States.make("snapshots of nothing", l1Size);
                x.commit();
                for (int addr = 0; addr < 16 * l1Size; addr++) {
                    Due.due("readSnapshot(1, " + addr + ")", x.readSnapshot(1, addr), 2000 + addr);
                    Due.due("readSnapshot(3, " + addr + ")", x.readSnapshot(3, addr), 2000 + addr);
                }
            }
        });
        Due.holds(promise, "commit() when nothing is allocated answers 0 and changes no view",
            () -> States.each((state, maker) -> {
                QcowImage discarded = maker.make();
                for (int cluster = 0; cluster < discarded.guestWords() / 4; cluster++) {
                    discarded.discard(cluster);
                }
                commitOfNothing(state + "all discarded, ", discarded);
                QcowImage committed = maker.make();
                committed.commit();
                commitOfNothing(state + "committed, ", committed);
            }));
    }

    private static void copiesCluster(int l1Size, int cluster) {
        QcowImage x = new QcowImage(l1Size);
        States.writeAllBacking(x, 1000);
        int[] due = Seen.backing(x);
        for (int addr = 4 * cluster; addr < 4 * cluster + 4; addr++) {
            due[addr] = addr % 2;
            x.write(addr, addr % 2);
        }
        Due.due("commit() of cluster " + cluster, x.commit(), 1);
        Due.same("the backing image after commit() of cluster " + cluster, Seen.backing(x), due);
    }

    private static void commitOfNothing(String state, QcowImage x) {
        int[] before = Seen.all(x);
        Due.due(state + "commit()", x.commit(), 0);
        Due.same(state + "all that is seen after commit()", Seen.all(x), before);
    }

    private static void check() {
        String promise = "Promise 17";
        Due.holds(promise, "check() changes nothing", () -> States.each((state, maker) -> {
            Seen.unchanged(state, maker.make(), Call.check(), 0);
        }));
        Due.holds(promise, "live L1 tables are those of the active image and of each existing snapshot",
            () -> {
                for (int view = 0; view <= 4; view++) {
                    QcowImage x = States.make("mixed", 1);
                    boolean live = view == 4 || x.snapshotExists(view);
                    Store.l1(x)[4 * view] = 129;
                    Due.due("check() reports view " + view, x.check() > 0, live);
                }
            });
        Due.holds(promise, "an L1 table has l1Size entries, and no more are live", () -> {
            for (int l1Size = 1; l1Size <= 4; l1Size++) {
                for (int i = 0; i < 4; i++) {
                    QcowImage x = new QcowImage(l1Size);
                    Store.l1(x)[Store.ACTIVE_L1 + i] = 129;
                    Due.due("check() with L1 entry " + i + " of " + l1Size, x.check(), i < l1Size ? 1 : 0);
                }
            }
        });
        Due.holds(promise, "r(h): the live L1 entries naming h, plus the entries in live L2 tables naming h",
            BoundaryCommitTest::bothKindsOfNaming);
        Due.holds(promise, "Each live L2 table is counted once, however many L1 entries name it",
            () -> {
            QcowImage x = new QcowImage(4);
            x.write(0, 1);
            for (int views = 1; views <= 4; views++) {
                x.snapshotCreate(views - 1);
                int table = Store.tableOf(x, 0);
                int data = Store.words(x)[4 * table] - 1;
                Due.due("count of the table of " + views + " snapshots", Store.counts(x)[table], views + 1);
                Due.due("count of its data cluster", Store.counts(x)[data], 1);
                Due.due("check()", x.check(), 0);
            }
        });
        Due.holds(promise, "the number of h in 0..127 whose stored count differs from r(h)", () -> {
            for (int host = 0; host < 128; host++) {
                QcowImage x = States.make("mixed", 4);
                Store.counts(x)[host]--;
                Due.due("check() with count " + host + " too low", x.check(), 1);
                Store.counts(x)[host] += 2;
                Due.due("check() with count " + host + " too high", x.check(), 1);
            }
            QcowImage x = States.make("full", 4);
            for (int host = 0; host < 128; host++) {
                Store.counts(x)[host] += 5;
            }
            Due.due("check() with all counts wrong", x.check(), 128);
        });
        Due.holds(promise, "plus the live L1 entries whose value lies outside 0..128", () -> {
            for (int value : new int[] {Integer.MIN_VALUE, -1, 0, 1, 128, 129, 130, Integer.MAX_VALUE}) {
                QcowImage x = new QcowImage(4);
                Store.l1(x)[Store.ACTIVE_L1 + 3] = value;
                // A value in range names a host cluster with count 0, which is one fault too.
                Due.due("check() with L1 entry " + value, x.check(), value == 0 ? 0 : 1);
                if (value > 0 && value <= 128) {
                    Store.counts(x)[value - 1] = 1;
                    Due.due("check() with L1 entry " + value + " counted", x.check(), 0);
                }
            }
        });
        Due.holds(promise, "plus the live L2 entries whose value lies outside 0..128", () -> {
            for (int value : new int[] {Integer.MIN_VALUE, -1, 0, 1, 128, 129, 130, Integer.MAX_VALUE}) {
                QcowImage x = new QcowImage(4);
                Store.l1(x)[Store.ACTIVE_L1 + 3] = 64;
                Store.counts(x)[63] = 1;
                Store.words(x)[4 * 63 + 3] = value;
                Due.due("check() with L2 entry " + value, x.check(), value == 0 ? 0 : 1);
                if (value > 0 && value <= 128) {
                    Store.counts(x)[value - 1] = 1;
                    Due.due("check() with L2 entry " + value + " counted", x.check(), 0);
                }
            }
        });
        Due.holds(promise, "check() answers 0 after construction", () -> {
            for (int l1Size : Wrong.outside(0)) {
                Due.due("check() of QcowImage(" + l1Size + ")", new QcowImage(l1Size).check(), 0);
            }
        });
        Due.holds(promise, "and after every call of every method",
            () -> States.each((state, maker) -> {
            int words = maker.make().guestWords();
            List<Call> calls = new ArrayList<>(Call.writes(words));
            calls.addAll(Call.writesOfBacking(words));
            calls.addAll(Call.discards(words));
            calls.addAll(Call.ofSlots());
            calls.add(Call.commit());
            calls.addAll(Call.asking(0));
            checkEach(state, maker, calls);
        }));
        Due.holds(promise, "with any arguments, refused or not",
            () -> States.each((state, maker) -> {
            int words = maker.make().guestWords();
            List<Call> calls = new ArrayList<>();
            for (int n : Wrong.outside(words)) {
                calls.addAll(Call.changing(n));
                calls.addAll(Call.asking(n));
            }
            checkEach(state, maker, calls);
        }));
    }

    /** check() after each call alone, and after each in a row with the others. */
    private static void checkEach(String state, States.Maker maker, List<Call> calls) {
        QcowImage row = maker.make();
        for (Call call : calls) {
            QcowImage alone = maker.make();
            call.on(alone);
            Due.due(state + "check() after " + call.text(), alone.check(), 0);
            call.on(row);
            Due.due(state + "check() after the row to " + call.text(), row.check(), 0);
        }
    }

    private static void bothKindsOfNaming() throws ReflectiveOperationException {
        for (int host = 0; host < 128; host++) {
            QcowImage x = new QcowImage(4);
            int table = (host + 1) % 128;
            // The host cluster is named by an L1 entry, by another table twice, and by itself.
            Store.l1(x)[Store.ACTIVE_L1] = host + 1;
            Store.l1(x)[Store.ACTIVE_L1 + 1] = table + 1;
            Store.words(x)[4 * table] = host + 1;
            Store.words(x)[4 * table + 3] = host + 1;
            Store.words(x)[4 * host + 2] = host + 1;
            Store.counts(x)[table] = 1;
            Store.counts(x)[host] = 4;
            Due.due("check() with host cluster " + host + " named four times", x.check(), 0);
            Store.l1(x)[Store.ACTIVE_L1 + 1] = 0;
            Store.counts(x)[table] = 0;
            Due.due("check() when two namings are not live", x.check(), 1);
            Store.counts(x)[host] = 2;
            Due.due("check() when they are not counted", x.check(), 0);
        }
    }
}
