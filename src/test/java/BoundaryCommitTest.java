import java.util.stream.IntStream;

/** The sentences of promise 16 that name a boundary, a test for each. */
public final class BoundaryCommitTest {
    public static void main(String[] args) {
        commit();
        Due.end();
    }

    private static void commit() {
        String promise = "Promise 16";
        Due.holds(promise, "is never refused", () -> States.each((state, maker) -> {
            QcowImage x = maker.make();
            for (int round = 0; round < 3; round++) {
                x.write(0, 70 + round);
                Due.due(state + "commit() in round " + round + " did something", x.commit() > 0, true);
                Due.due(state + "readBacking(0)", x.readBacking(0), 70 + round);
            }
        }));
        Due.holds(promise, "each allocated cluster, from 0 to G-1: the backing's 4 words become the active's 4",
            () -> {
                for (int l1Size = 1; l1Size <= 4; l1Size++) {
                    for (int cluster = 0; cluster < 4 * l1Size; cluster++) {
                        copiesCluster(l1Size, cluster);
                    }
                }
            });
        Due.holds(promise, "Then every cluster of the active image becomes unallocated",
            () -> States.each((state, maker) -> {
                QcowImage x = maker.make();
                x.commit();
                for (int cluster = 0; cluster < x.guestWords() / 4; cluster++) {
                    Due.due(state + "isAllocated(" + cluster + ")", x.isAllocated(cluster), false);
                }
            }));
        Due.holds(promise, "Answers the number of clusters copied, equal to allocatedCount() just before",
            () -> States.each((state, maker) -> {
                QcowImage x = maker.make();
                int count = x.allocatedCount();
                Due.due(state + "commit()", x.commit(), count);
            }));
        Due.holds(promise, "a value in 0..G: G when all are allocated", () -> {
            for (int l1Size = 1; l1Size <= 4; l1Size++) {
                Due.due("commit() of a full image", States.make("full", l1Size).commit(), 4 * l1Size);
                Due.due("commit() of a shared image", States.make("shared", l1Size).commit(), 4 * l1Size);
            }
        });
        Due.holds(promise, "Right after the call readBacking(a) == v(a)",
            () -> States.each((state, maker) -> {
                QcowImage x = maker.make();
                int[] v = IntStream.range(0, x.guestWords()).map(x::read).toArray();
                x.commit();
                Due.same(state + "the backing image", Seen.backing(x), v);
            }));
        Due.holds(promise, "and read(a) == v(a)", () -> States.each((state, maker) -> {
            QcowImage x = maker.make();
            int[] v = IntStream.range(0, x.guestWords()).map(x::read).toArray();
            x.commit();
            Due.same(state + "read", IntStream.range(0, v.length).map(x::read).toArray(), v);
        }));
        Due.holds(promise, "and allocatedCount() == 0", () -> States.each((state, maker) -> {
            QcowImage x = maker.make();
            x.commit();
            Due.due(state + "allocatedCount()", x.allocatedCount(), 0);
        }));
        Due.holds(promise, "Backing words of clusters that were unallocated keep their values",
            () -> States.each((state, maker) -> {
                QcowImage x = maker.make();
                for (int cluster = 0; cluster < x.guestWords() / 4; cluster += 2) {
                    x.discard(cluster);
                }
                int[] before = Seen.backing(x);
                x.commit();
                for (int addr = 0; addr < before.length; addr++) {
                    if (addr / 4 % 2 == 0) {
                        Due.due(state + "readBacking(" + addr + ")", x.readBacking(addr), before[addr]);
                    }
                }
            }));
        Due.holds(promise, "Snapshots keep their allocation flags",
            () -> States.each((state, maker) -> {
                QcowImage x = maker.make();
                for (int slot = 0; slot < 4; slot++) {
                    int[] before = Seen.flags(x, slot);
                    x.commit();
                    Due.same(state + "flags of slot " + slot, Seen.flags(x, slot), before);
                    x.write(0, 5);
                    x.commit();
                    Due.same(state + "flags of slot " + slot + " later", Seen.flags(x, slot), before);
                }
            }));
        Due.holds(promise, "Snapshots keep their allocated contents",
            () -> States.each((state, maker) -> {
                QcowImage before = maker.make();
                QcowImage x = maker.make();
                x.commit();
                // What the commit let go of must not be what a snapshot still uses.
                States.writeAll(x, 8000);
                x.commit();
                for (int addr = 0; addr < x.guestWords(); addr++) {
                    for (int slot = 0; slot < 4; slot++) {
                        if (before.isSnapshotAllocated(slot, addr / 4)) {
                            Due.due(state + "readSnapshot(" + slot + ", " + addr + ")",
                                x.readSnapshot(slot, addr), before.readSnapshot(slot, addr));
                        } else {
                            Due.due(state + "the slot's word " + addr + " is its own",
                                x.isSnapshotAllocated(slot, addr / 4), false);
                        }
                    }
                }
            }));
        Due.holds(promise, "their unallocated clusters now read the new backing image", () -> {
            for (int l1Size = 1; l1Size <= 4; l1Size++) {
                QcowImage x = States.make("snapshots of nothing", l1Size);
                x.commit();
                for (int addr = 0; addr < 16 * l1Size; addr++) {
                    Due.due("readSnapshot(1, " + addr + ")", x.readSnapshot(1, addr), 2000 + addr);
                    Due.due("readSnapshot(3, " + addr + ")", x.readSnapshot(3, addr), 2000 + addr);
                }
            }
        });
        Due.holds(promise, "commit() when nothing is allocated answers 0 and changes no view",
            () -> States.each((state, maker) -> {
                QcowImage discarded = maker.make();
                for (int cluster = 0; cluster < discarded.guestWords() / 4; cluster++) {
                    discarded.discard(cluster);
                }
                commitOfNothing(state + "all discarded, ", discarded);
                QcowImage committed = maker.make();
                committed.commit();
                commitOfNothing(state + "committed, ", committed);
            }));
    }

    private static void copiesCluster(int l1Size, int cluster) {
        QcowImage x = new QcowImage(l1Size);
        States.writeAllBacking(x, 1000);
        int[] due = Seen.backing(x);
        for (int addr = 4 * cluster; addr < 4 * cluster + 4; addr++) {
            due[addr] = addr % 2;
            x.write(addr, addr % 2);
        }
        Due.due("commit() of cluster " + cluster, x.commit(), 1);
        Due.same("the backing image after commit() of cluster " + cluster, Seen.backing(x), due);
    }

    private static void commitOfNothing(String state, QcowImage x) {
        int[] before = Seen.all(x);
        Due.due(state + "commit()", x.commit(), 0);
        Due.same(state + "all that is seen after commit()", Seen.all(x), before);
    }
}
