import java.util.List;
import java.util.function.IntFunction;
import java.util.stream.IntStream;

/** The sentences of promises 1 to 9 that name a boundary, a test for each. */
public final class BoundaryImageTest {
    private static final int MIN = Integer.MIN_VALUE;
    private static final int MAX = Integer.MAX_VALUE;
    private static final int[] VALUES = {MIN, MIN + 1, -1, 0, 1, 4, 128, 129, MAX - 1, MAX};

    public static void main(String[] args) {
        construction();
        guestWords();
        write();
        read();
        discard();
        writeBacking();
        readBacking();
        isAllocated();
        allocatedCount();
        Due.end();
    }

    private static void construction() {
        String promise = "Promise 1";
        Due.holds(promise, "a value below 1 becomes 1", () -> {
            for (int l1Size : Seen.join(Wrong.below(), new int[] {0})) {
                Due.due("guestWords() of " + l1Size, new QcowImage(l1Size).guestWords(), 16);
            }
        });
        Due.holds(promise, "a value above 4 becomes 4", () -> {
            for (int l1Size : Wrong.from(5)) {
                Due.due("guestWords() of " + l1Size, new QcowImage(l1Size).guestWords(), 64);
            }
        });
        Due.holds(promise, "1..4 stay as given", () -> {
            for (int l1Size = 1; l1Size <= 4; l1Size++) {
                Due.due("guestWords() of " + l1Size, new QcowImage(l1Size).guestWords(), 16 * l1Size);
            }
        });
        Due.holds(promise, "G = 4 * l1Size and W = 16 * l1Size for the life of the object",
            BoundaryImageTest::sizesForLife);
        Due.holds(promise, "On construction the backing image is all 0",
            () -> eachNew((made, x) -> {
                Due.same(made + "backing", Seen.backing(x), new int[x.guestWords()]);
            }));
        Due.holds(promise, "every active cluster is unallocated", () -> eachNew((made, x) -> {
            for (int cluster = 0; cluster < x.guestWords() / 4; cluster++) {
                Due.due(made + "isAllocated(" + cluster + ")", x.isAllocated(cluster), false);
            }
        }));
        Due.holds(promise, "so every active word reads 0", () -> eachNew((made, x) -> {
            for (int addr = 0; addr < x.guestWords(); addr++) {
                Due.due(made + "read(" + addr + ")", x.read(addr), 0);
            }
        }));
        Due.holds(promise, "no snapshot exists in any slot", () -> eachNew((made, x) -> {
            for (int slot = 0; slot < 4; slot++) {
                Due.due(made + "snapshotExists(" + slot + ")", x.snapshotExists(slot), false);
            }
        }));
        Due.holds(promise, "every L1 entry is 0", () -> eachNew((made, x) -> {
            Due.same(made + "L1 entries", Store.l1(x), new int[20]);
        }));
        Due.holds(promise, "every host cluster has stored count 0", () -> eachNew((made, x) -> {
            Due.same(made + "stored counts", Store.counts(x), new int[128]);
        }));
        Due.holds(promise, "check() answers 0 at this point", () -> eachNew((made, x) -> {
            Due.due(made + "check()", x.check(), 0);
        }));
    }

    private interface NewTest {
        void run(String made, QcowImage x) throws Exception;
    }

    private static void eachNew(NewTest test) throws Exception {
        for (int l1Size : new int[] {MIN, -1, 0, 1, 2, 3, 4, 5, MAX}) {
            test.run("QcowImage(" + l1Size + ") ", new QcowImage(l1Size));
        }
    }

    private static void sizesForLife() {
        for (int l1Size = 1; l1Size <= 4; l1Size++) {
            QcowImage x = new QcowImage(l1Size);
            for (int n = -1; n <= 64; n++) {
                for (Call call : Call.changing(n)) {
                    call.on(x);
                    Due.due("W after " + call.text(), x.guestWords(), 16 * l1Size);
                }
                Due.due("write(W - 1) in round " + n, x.write(16 * l1Size - 1, 1), true);
                Due.due("write(W) in round " + n, x.write(16 * l1Size, 1), false);
                Due.due("discard(G - 1) in round " + n, x.discard(4 * l1Size - 1), true);
                Due.due("discard(G) in round " + n, x.discard(4 * l1Size), false);
            }
        }
    }

    private static void guestWords() {
        String promise = "Promise 2";
        Due.holds(promise, "answers W = 16 * l1Size with l1Size as clamped", () -> {
            int[] given = {MIN, -1, 0, 1, 2, 3, 4, 5, MAX};
            int[] words = {16, 16, 16, 16, 32, 48, 64, 64, 64};
            for (int i = 0; i < given.length; i++) {
                Due.due("guestWords() of " + given[i], new QcowImage(given[i]).guestWords(), words[i]);
            }
        });
        Due.holds(promise, "Changes nothing", () -> unchanged(Call.guestWords()));
        Due.holds(promise, "The answer is the same on every call",
            () -> States.each((state, maker) -> {
                QcowImage x = maker.make();
                int words = x.guestWords();
                for (int n = 0; n < 10; n++) {
                    Due.due(state + "guestWords() again", x.guestWords(), words);
                    Call.changing(n).forEach(call -> call.on(x));
                }
            }));
    }

    private static void unchanged(Call call) throws Exception {
        States.each((state, maker) -> Seen.unchanged(state, maker.make(), call));
    }

    private static void write() {
        String promise = "Promise 3";
        Due.holds(promise, "Refused if addr < 0",
            () -> Wrong.refusedBelow(addr -> Call.write(addr, 7)));
        Due.holds(promise, "Refused if addr >= W",
            () -> Wrong.refusedFrom(QcowImage::guestWords, addr -> Call.write(addr, 7)));
        Due.holds(promise, "Otherwise answers true and word addr becomes value, at 0 and W-1 too",
            () -> States.each((state, maker) -> {
                for (int addr = 0; addr < maker.make().guestWords(); addr++) {
                    QcowImage x = maker.make();
                    Due.due(state + "write(" + addr + ", 7)", x.write(addr, 7), true);
                    Due.due(state + "read(" + addr + ")", x.read(addr), 7);
                }
            }));
        Due.holds(promise, "If c is unallocated, it first becomes allocated",
            () -> States.each((state, maker) -> {
                QcowImage x = maker.make();
                for (int addr = 0; addr < x.guestWords(); addr++) {
                    x.discard(addr / 4);
                    x.write(addr, 7);
                    Due.due(state + "isAllocated after write(" + addr + ")", x.isAllocated(addr / 4), true);
                }
            }));
        Due.holds(promise, "its 4 words equal to the backing image's 4 words at this moment",
            BoundaryImageTest::copiedIn);
        Due.holds(promise, "Any int value, including 0, is stored as given",
            () -> States.each((state, maker) -> {
                QcowImage x = maker.make();
                for (int value : VALUES) {
                    for (int addr = 0; addr < x.guestWords(); addr++) {
                        x.write(addr, value);
                        Due.due(state + "read after write of " + value, x.read(addr), value);
                    }
                }
            }));
        Due.holds(promise, "writing 0 still allocates the cluster", () -> {
            for (int addr = 0; addr < 64; addr++) {
                QcowImage x = new QcowImage(4);
                x.write(addr, 0);
                Due.due("isAllocated after write(" + addr + ", 0)", x.isAllocated(addr / 4), true);
                x.writeBacking(addr, 9);
                Due.due("read(" + addr + ") of a written 0", x.read(addr), 0);
            }
        });
        Due.holds(promise, "The other 3 words of cluster c keep what they held",
            BoundaryImageTest::otherWordsKeep);
        Due.holds(promise, "No other view changes: the backing image is unchanged",
            () -> eachOf(Call::writes, (state, x, call) -> Seen.stays(state, x, call, Seen::backing)));
        Due.holds(promise, "every snapshot's flags and contents are unchanged, even when shared",
            () -> eachOf(Call::writes, (state, x, call) -> {
                int[] before = Seen.slots(x);
                call.on(x);
                Due.same(state + "snapshots after " + call.text(), Seen.slots(x), before);
                // The second time it is no longer shared, or should not be.
                call.on(x);
                Due.same(state + "snapshots after a second " + call.text(), Seen.slots(x), before);
            }));
        Due.holds(promise, "every other active cluster is unchanged", BoundaryImageTest::otherClusters);
    }

    private static void copiedIn() throws Exception {
        States.each((state, maker) -> {
            QcowImage x = maker.make();
            for (int addr = 0; addr < x.guestWords(); addr++) {
                int first = addr / 4 * 4;
                x.discard(addr / 4);
                for (int i = 0; i < 4; i++) {
                    x.writeBacking(first + i, 50 + i + addr);
                }
                x.write(addr, 7);
                for (int i = 0; i < 4; i++) {
                    x.writeBacking(first + i, 3);
                }
                for (int i = 0; i < 4; i++) {
                    Due.due(state + "read(" + (first + i) + ") after write(" + addr + ")",
                        x.read(first + i), first + i == addr ? 7 : 50 + i + addr);
                }
            }
        });
    }

    private static void otherWordsKeep() throws Exception {
        States.each((state, maker) -> {
            QcowImage x = maker.make();
            States.writeAll(x, 500);
            x.snapshotCreate(0);
            States.writeAllBacking(x, 3000);
            for (int addr = 0; addr < x.guestWords(); addr++) {
                x.write(addr, 7);
                for (int other = 0; other < x.guestWords(); other++) {
                    Due.due(state + "read(" + other + ") after write(" + addr + ")",
                        x.read(other), other <= addr ? 7 : 500 + other);
                }
            }
        });
    }

    private interface CallTest {
        void run(String state, QcowImage x, Call call) throws Exception;
    }

    /** Each of the calls in each state, on an image of its own. */
    private static void eachOf(IntFunction<List<Call>> calls, CallTest test) throws Exception {
        States.each((state, maker) -> {
            for (Call call : calls.apply(maker.make().guestWords())) {
                test.run(state, maker.make(), call);
            }
        });
    }

    private static void otherClusters() throws Exception {
        States.each((state, maker) -> {
            for (int addr = 0; addr < maker.make().guestWords(); addr++) {
                QcowImage x = maker.make();
                int[] before = activeBut(x, addr / 4);
                x.write(addr, 7);
                Due.same(state + "other clusters after write(" + addr + ")", activeBut(x, addr / 4), before);
            }
        });
    }

    /** The flags and words of all active clusters but one. */
    private static int[] activeBut(QcowImage x, int but) {
        int clusters = x.guestWords() / 4;
        return Seen.join(
            IntStream.range(0, clusters).filter(c -> c != but)
                .map(c -> Seen.bit(x.isAllocated(c))).toArray(),
            IntStream.range(0, 4 * clusters).filter(a -> a / 4 != but).map(x::read).toArray());
    }

    private static void read() {
        String promise = "Promise 4";
        Due.holds(promise, "answers 0 if addr < 0",
            () -> Wrong.refusedBelow(Call::read));
        Due.holds(promise, "answers 0 if addr >= W",
            () -> Wrong.refusedFrom(QcowImage::guestWords, Call::read));
        Due.holds(promise, "its own word if cluster addr / 4 is allocated, though it be 0", () -> {
            QcowImage x = new QcowImage(4);
            States.writeAllBacking(x, 1000);
            for (int addr = 0; addr < 64; addr++) {
                x.write(addr, addr % 2);
                Due.due("read(" + addr + ")", x.read(addr), addr % 2);
            }
        });
        Due.holds(promise, "else backing word addr (as the backing image is now)", () -> {
            QcowImage x = States.make("full", 4);
            for (int addr = 0; addr < 64; addr++) {
                x.discard(addr / 4);
                Due.due("read(" + addr + ")", x.read(addr), 1000 + addr);
                x.writeBacking(addr, MIN + addr);
                Due.due("read(" + addr + ") later", x.read(addr), MIN + addr);
            }
        });
        Due.holds(promise, "Changes nothing", () -> {
            for (int addr : new int[] {MIN, -1, 0, 3, 15, 16, 63, 64, MAX}) {
                unchanged(Call.read(addr));
            }
        });
    }

    private static void discard() {
        String promise = "Promise 5";
        Due.holds(promise, "Refused if cluster < 0",
            () -> Wrong.refusedBelow(Call::discard));
        Due.holds(promise, "Refused if cluster >= G",
            () -> Wrong.refusedFrom(x -> x.guestWords() / 4, Call::discard));
        Due.holds(promise, "Otherwise answers whether the guest cluster was allocated, 0 and G-1 too",
            () -> States.each((state, maker) -> {
                for (int cluster = 0; cluster < maker.make().guestWords() / 4; cluster++) {
                    QcowImage x = maker.make();
                    boolean was = x.isAllocated(cluster);
                    Due.due(state + "discard(" + cluster + ")", x.discard(cluster), was);
                }
            }));
        Due.holds(promise, "afterwards it is unallocated there (its words read the backing image)",
            () -> States.each((state, maker) -> {
                QcowImage x = maker.make();
                for (int cluster = 0; cluster < x.guestWords() / 4; cluster++) {
                    x.discard(cluster);
                    Due.due(state + "isAllocated(" + cluster + ")", x.isAllocated(cluster), false);
                    for (int addr = 4 * cluster; addr < 4 * cluster + 4; addr++) {
                        Due.due(state + "read(" + addr + ")", x.read(addr), x.readBacking(addr));
                        x.writeBacking(addr, 77 + addr);
                        Due.due(state + "read(" + addr + ") later", x.read(addr), 77 + addr);
                    }
                }
            }));
        Due.holds(promise, "If it was already unallocated, the answer is false, the active image as before",
            () -> eachOf(Call::discards, (state, x, call) -> {
                call.on(x);
                int[] before = Seen.active(x);
                Due.due(state + "a second " + call.text(), call.on(x), 0);
                Due.same(state + "active after a second " + call.text(), Seen.active(x), before);
            }));
        Due.holds(promise, "No other view changes: the backing image is unchanged",
            () -> eachOf(Call::discards, (state, x, call) -> Seen.stays(state, x, call, Seen::backing)));
        Due.holds(promise, "every snapshot is unchanged",
            () -> eachOf(Call::discards, (state, x, call) -> {
                int[] before = Seen.slots(x);
                call.on(x);
                Due.same(state + "snapshots after " + call.text(), Seen.slots(x), before);
                States.writeAll(x, 8000);
                Due.same(state + "snapshots after " + call.text() + " and writes", Seen.slots(x), before);
            }));
        Due.holds(promise, "every other active cluster is unchanged",
            () -> States.each((state, maker) -> {
                for (int cluster = 0; cluster < maker.make().guestWords() / 4; cluster++) {
                    QcowImage x = maker.make();
                    int[] before = activeBut(x, cluster);
                    x.discard(cluster);
                    Due.same(state + "other clusters after discard(" + cluster + ")",
                        activeBut(x, cluster), before);
                }
            }));
        Due.holds(promise, "The former own words of the discarded cluster are gone", () -> {
            QcowImage x = States.make("full", 4);
            for (int cluster = 0; cluster < 16; cluster++) {
                x.discard(cluster);
                x.write(4 * cluster, 7);
                for (int i = 1; i < 4; i++) {
                    Due.due("read after discard and write", x.read(4 * cluster + i), 1000 + 4 * cluster + i);
                }
            }
        });
    }

    private static void writeBacking() {
        String promise = "Promise 6";
        Due.holds(promise, "Refused if addr < 0",
            () -> Wrong.refusedBelow(addr -> Call.writeBacking(addr, 7)));
        Due.holds(promise, "Refused if addr >= W",
            () -> Wrong.refusedFrom(QcowImage::guestWords, addr -> Call.writeBacking(addr, 7)));
        Due.holds(promise, "Otherwise backing word addr becomes value and answers true, at 0 and W-1 too",
            () -> States.each((state, maker) -> {
                QcowImage x = maker.make();
                for (int value : VALUES) {
                    for (int addr = 0; addr < x.guestWords(); addr++) {
                        Due.due(state + "writeBacking(" + addr + ", " + value + ")",
                            x.writeBacking(addr, value), true);
                        Due.due(state + "readBacking(" + addr + ")", x.readBacking(addr), value);
                    }
                }
            }));
        Due.holds(promise, "Every view in which cluster addr / 4 is unallocated now reads value at addr",
            BoundaryImageTest::viewsReadBacking);
        Due.holds(promise, "Allocated clusters of all views are unchanged",
            BoundaryImageTest::allocatedStay);
        Due.holds(promise, "Allocation flags of all views are unchanged",
            () -> eachOf(Call::writesOfBacking,
                (state, x, call) -> Seen.stays(state, x, call, BoundaryImageTest::flags)));
        Due.holds(promise, "No other backing word changes", () -> States.each((state, maker) -> {
            for (int addr = 0; addr < maker.make().guestWords(); addr++) {
                QcowImage x = maker.make();
                int[] due = Seen.backing(x);
                due[addr] = 7;
                x.writeBacking(addr, 7);
                Due.same(state + "backing after writeBacking(" + addr + ", 7)", Seen.backing(x), due);
            }
        }));
    }

    private static int[] flags(QcowImage x) {
        return Seen.join(
            IntStream.range(0, x.guestWords() / 4).map(c -> Seen.bit(x.isAllocated(c))).toArray(),
            Seen.flags(x, 0), Seen.flags(x, 1), Seen.flags(x, 2), Seen.flags(x, 3));
    }

    private static void viewsReadBacking() throws Exception {
        States.each((state, maker) -> {
            QcowImage x = maker.make();
            for (int addr = 0; addr < x.guestWords(); addr++) {
                x.writeBacking(addr, -5 - addr);
                Due.due(state + "readBacking(" + addr + ")", x.readBacking(addr), -5 - addr);
                if (!x.isAllocated(addr / 4)) {
                    Due.due(state + "read(" + addr + ")", x.read(addr), -5 - addr);
                }
                for (int slot = 0; slot < 4; slot++) {
                    if (x.snapshotExists(slot) && !x.isSnapshotAllocated(slot, addr / 4)) {
                        Due.due(state + "readSnapshot(" + slot + ", " + addr + ")",
                            x.readSnapshot(slot, addr), -5 - addr);
                    }
                }
            }
        });
    }

    private static void allocatedStay() throws Exception {
        States.each((state, maker) -> {
            QcowImage before = maker.make();
            QcowImage x = maker.make();
            States.writeAllBacking(x, -100);
            Due.same(state + "flags", flags(x), flags(before));
            for (int addr = 0; addr < x.guestWords(); addr++) {
                if (before.isAllocated(addr / 4)) {
                    Due.due(state + "read(" + addr + ")", x.read(addr), before.read(addr));
                }
                for (int slot = 0; slot < 4; slot++) {
                    if (before.isSnapshotAllocated(slot, addr / 4)) {
                        Due.due(state + "readSnapshot(" + slot + ", " + addr + ")",
                            x.readSnapshot(slot, addr), before.readSnapshot(slot, addr));
                    }
                }
            }
        });
    }

    private static void readBacking() {
        String promise = "Promise 7";
        Due.holds(promise, "answers 0 if addr < 0",
            () -> Wrong.refusedBelow(Call::readBacking));
        Due.holds(promise, "answers 0 if addr >= W",
            () -> Wrong.refusedFrom(QcowImage::guestWords, Call::readBacking));
        Due.holds(promise, "else backing word addr, at 0 and W-1 too, allocated or not", () -> {
            for (String state : new String[] {"mixed", "shared", "full", "emptied"}) {
                for (int l1Size = 1; l1Size <= 4; l1Size++) {
                    QcowImage x = States.make(state, l1Size);
                    for (int addr = 0; addr < 16 * l1Size; addr++) {
                        Due.due(state + ": readBacking(" + addr + ")", x.readBacking(addr), 1000 + addr);
                    }
                }
            }
        });
        Due.holds(promise, "Changes nothing", () -> {
            for (int addr : new int[] {MIN, -1, 0, 3, 15, 16, 63, 64, MAX}) {
                unchanged(Call.readBacking(addr));
            }
        });
    }

    private static void isAllocated() {
        String promise = "Promise 8";
        Due.holds(promise, "answers false if cluster < 0",
            () -> Wrong.refusedBelow(Call::isAllocated));
        Due.holds(promise, "answers false if cluster >= G",
            () -> Wrong.refusedFrom(x -> x.guestWords() / 4, Call::isAllocated));
        Due.holds(promise, "else whether the guest cluster is allocated, 0 and G-1 too", () -> {
            for (int l1Size = 1; l1Size <= 4; l1Size++) {
                for (int cluster = 0; cluster < 4 * l1Size; cluster++) {
                    QcowImage x = new QcowImage(l1Size);
                    Due.due("isAllocated(" + cluster + ") at first", x.isAllocated(cluster), false);
                    x.write(4 * cluster + 3, 0);
                    Due.due("isAllocated(" + cluster + ") written", x.isAllocated(cluster), true);
                    x.discard(cluster);
                    Due.due("isAllocated(" + cluster + ") discarded", x.isAllocated(cluster), false);
                }
            }
        });
        Due.holds(promise, "Changes nothing", () -> {
            for (int cluster : new int[] {MIN, -1, 0, 3, 4, 15, 16, MAX}) {
                unchanged(Call.isAllocated(cluster));
            }
        });
    }

    private static void allocatedCount() {
        String promise = "Promise 9";
        Due.holds(promise, "a value in 0..G: 0 when empty", () -> {
            for (int l1Size = 1; l1Size <= 4; l1Size++) {
                Due.due("allocatedCount() of a new image", new QcowImage(l1Size).allocatedCount(), 0);
                Due.due("allocatedCount() of an emptied image",
                    States.make("emptied", l1Size).allocatedCount(), 0);
            }
        });
        Due.holds(promise, "a value in 0..G: G when full", () -> {
            for (int l1Size = 1; l1Size <= 4; l1Size++) {
                Due.due("allocatedCount() of a full image",
                    States.make("full", l1Size).allocatedCount(), 4 * l1Size);
                Due.due("allocatedCount() of a shared image",
                    States.make("shared", l1Size).allocatedCount(), 4 * l1Size);
            }
        });
        Due.holds(promise, "It equals the number of c in 0..G-1 for which isAllocated(c) answers true",
            () -> {
                for (int set = 0; set < 1 << 16; set += 7) {
                    QcowImage x = new QcowImage(4);
                    for (int cluster = 0; cluster < 16; cluster++) {
                        if ((set >> cluster & 1) != 0) {
                            x.write(4 * cluster, 1);
                        }
                    }
                    Due.due("allocatedCount() of set " + set, x.allocatedCount(), Integer.bitCount(set));
                    Due.due("isAllocated of set " + set, IntStream.range(0, 16)
                        .filter(x::isAllocated).count(), Integer.bitCount(set));
                }
            });
        Due.holds(promise, "Changes nothing",
            () -> unchanged(Call.allocatedCount()));
    }
}
