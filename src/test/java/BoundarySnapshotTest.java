import java.util.ArrayList;
import java.util.List;

/** The sentences of promises 10 to 15 that name a boundary, a test for each. */
public final class BoundarySnapshotTest {
    private static final int MIN = Integer.MIN_VALUE;
    private static final int MAX = Integer.MAX_VALUE;

    public static void main(String[] args) {
        snapshotCreate();
        snapshotDelete();
        snapshotApply();
        snapshotExists();
        readSnapshot();
        isSnapshotAllocated();
        Due.end();
    }

    private interface SlotTest {
        void run(String state, QcowImage x, int slot) throws Exception;
    }

    /** Every state in every size with every slot that holds a snapshot. */
    private static void eachHeld(SlotTest test) throws Exception {
        eachSlot(test, true);
    }

    private static void eachEmpty(SlotTest test) throws Exception {
        eachSlot(test, false);
    }

    private static void eachSlot(SlotTest test, boolean held) throws Exception {
        States.each((state, maker) -> {
            for (int slot = 0; slot < 4; slot++) {
                QcowImage x = maker.make();
                if (x.snapshotExists(slot) == held) {
                    test.run(state + "slot " + slot + ": ", x, slot);
                }
            }
        });
    }

    private static int[] slotsBut(QcowImage x, int but) {
        int[] seen = {};
        for (int slot = 0; slot < 4; slot++) {
            if (slot != but) {
                seen = Seen.join(seen, Seen.slot(x, slot));
            }
        }
        return seen;
    }

    /** The slot's flags and words in the form of Seen.active. */
    private static int[] asActive(QcowImage x, int slot) {
        int count = 0;
        for (int flag : Seen.flags(x, slot)) {
            count += flag;
        }
        return Seen.join(new int[] {count}, Seen.flags(x, slot), Seen.words(x, slot));
    }

    private static void snapshotCreate() {
        String promise = "Promise 10";
        Due.holds(promise, "Refused if slot < 0",
            () -> Wrong.refusedBelow(Call::create));
        Due.holds(promise, "Refused if slot >= SLOTS",
            () -> Wrong.refusedFrom(x -> 4, Call::create));
        Due.holds(promise, "then refused if slot already holds a snapshot",
            () -> eachHeld((state, x, slot) -> {
                Seen.unchanged(state, x, Call.create(slot), 0);
                States.writeAll(x, 8000);
                Seen.unchanged(state + "later ", x, Call.create(slot), 0);
            }));
        Due.holds(promise, "Otherwise answers true, in slots 0 and 3 too",
            () -> eachEmpty((state, x, slot) -> {
                Due.due(state + "snapshotCreate", x.snapshotCreate(slot), true);
                Due.due(state + "snapshotExists", x.snapshotExists(slot), true);
            }));
        Due.holds(promise, "flags and allocated contents equal the active image's now",
            () -> eachEmpty((state, x, slot) -> {
                int[] active = Seen.active(x);
                x.snapshotCreate(slot);
                Due.same(state + "the new snapshot", asActive(x, slot), active);
            }));
        Due.holds(promise, "a snapshot of an image with nothing allocated, and of one with all",
            () -> {
                QcowImage x = new QcowImage(4);
                x.snapshotCreate(0);
                States.writeAll(x, 2000);
                x.snapshotCreate(3);
                x.commit();
                for (int cluster = 0; cluster < 16; cluster++) {
                    Due.due("isSnapshotAllocated(0, " + cluster + ")", x.isSnapshotAllocated(0, cluster), false);
                    Due.due("isSnapshotAllocated(3, " + cluster + ")", x.isSnapshotAllocated(3, cluster), true);
                }
            });
        Due.holds(promise, "The active image is unchanged", () -> eachEmpty((state, x, slot) ->
            Seen.stays(state, x, Call.create(slot), Seen::active)));
        Due.holds(promise, "the backing image is unchanged", () -> eachEmpty((state, x, slot) ->
            Seen.stays(state, x, Call.create(slot), Seen::backing)));
        Due.holds(promise, "every other slot is unchanged", () -> eachEmpty((state, x, slot) ->
            Seen.stays(state, x, Call.create(slot), y -> slotsBut(y, slot))));
        Due.holds(promise, "later calls other than snapshotDelete(slot), writeBacking and commit do not change it",
            () -> States.each((state, maker) -> {
                QcowImage x = maker.make();
                for (int slot = 0; slot < 4; slot++) {
                    if (x.snapshotExists(slot)) {
                        continue;
                    }
                    x.snapshotCreate(slot);
                    int[] before = Seen.slot(x, slot);
                    for (Call call : othersThan(slot, x.guestWords())) {
                        call.on(x);
                        Due.same(state + "slot " + slot + " after " + call.text(), Seen.slot(x, slot), before);
                    }
                }
            }));
    }

    /** Every call in range and out of it that must not change what the slot's snapshot reads. */
    private static List<Call> othersThan(int slot, int words) {
        List<Call> calls = new ArrayList<>(Call.writes(words));
        calls.addAll(Call.discards(words));
        for (int other = -1; other <= 4; other++) {
            calls.add(Call.create(other));
            calls.add(Call.apply(other));
            calls.add(Call.write(0, 5));
            if (other != slot) {
                calls.add(Call.delete(other));
            }
        }
        calls.addAll(Call.writes(words));
        calls.addAll(Call.asking(slot));
        calls.addAll(Call.asking(words));
        calls.add(Call.write(words, 1));
        calls.add(Call.discard(words / 4));
        return calls;
    }

    private static void snapshotDelete() {
        String promise = "Promise 11";
        Due.holds(promise, "Refused if slot < 0",
            () -> Wrong.refusedBelow(Call::delete));
        Due.holds(promise, "Refused if slot >= SLOTS",
            () -> Wrong.refusedFrom(x -> 4, Call::delete));
        Due.holds(promise, "then refused if slot holds no snapshot",
            () -> eachEmpty((state, x, slot) -> {
                Seen.unchanged(state, x, Call.delete(slot), 0);
            }));
        Due.holds(promise, "then refused if slot holds no snapshot any more",
            () -> eachHeld((state, x, slot) -> {
                x.snapshotDelete(slot);
                Seen.unchanged(state, x, Call.delete(slot), 0);
            }));
        Due.holds(promise, "Otherwise slot becomes empty and answers true",
            () -> eachHeld((state, x, slot) -> {
                Due.due(state + "snapshotDelete", x.snapshotDelete(slot), true);
                Due.same(state + "the emptied slot", Seen.slot(x, slot), new int[1 + x.guestWords() / 4 * 5]);
            }));
        Due.holds(promise, "No other view changes: the active image reads as before",
            () -> eachHeld((state, x, slot) -> {
                int[] before = Seen.active(x);
                x.snapshotDelete(slot);
                Due.same(state + "the active image", Seen.active(x), before);
                // What was freed must not be what the active image still uses.
                for (int other = 0; other < 4; other++) {
                    x.snapshotDelete(other);
                }
                Due.same(state + "the active image alone", Seen.active(x), before);
            }));
        Due.holds(promise, "the backing image reads as before", () -> eachHeld((state, x, slot) ->
            Seen.stays(state, x, Call.delete(slot), Seen::backing)));
        Due.holds(promise, "every other snapshot reads exactly as before",
            () -> eachHeld((state, x, slot) -> {
                int[] before = slotsBut(x, slot);
                x.snapshotDelete(slot);
                Due.same(state + "the other slots", slotsBut(x, slot), before);
                States.writeAll(x, 8000);
                Due.same(state + "the other slots after writes", slotsBut(x, slot), before);
            }));
        Due.holds(promise, "The emptied slot may later receive a new snapshot",
            () -> eachHeld((state, x, slot) -> {
                for (int round = 1; round <= 5; round++) {
                    x.snapshotDelete(slot);
                    x.write(round, 70 + round);
                    int[] active = Seen.active(x);
                    Due.due(state + "snapshotCreate again", x.snapshotCreate(slot), true);
                    Due.same(state + "the new snapshot", asActive(x, slot), active);
                }
            }));
    }

    private static void snapshotApply() {
        String promise = "Promise 12";
        Due.holds(promise, "Refused if slot < 0",
            () -> Wrong.refusedBelow(Call::apply));
        Due.holds(promise, "Refused if slot >= SLOTS",
            () -> Wrong.refusedFrom(x -> 4, Call::apply));
        Due.holds(promise, "then refused if slot holds no snapshot", () -> {
            eachEmpty((state, x, slot) -> Seen.unchanged(state, x, Call.apply(slot), 0));
            eachHeld((state, x, slot) -> {
                x.snapshotDelete(slot);
                Seen.unchanged(state + "deleted, ", x, Call.apply(slot), 0);
            });
        });
        Due.holds(promise, "Otherwise the active image becomes equal to the snapshot; answers true",
            () -> eachHeld((state, x, slot) -> {
                Due.due(state + "snapshotApply", x.snapshotApply(slot), true);
                Due.same(state + "the active image", Seen.active(x), asActive(x, slot));
                Due.due(state + "snapshotApply again", x.snapshotApply(slot), true);
                Due.same(state + "the active image again", Seen.active(x), asActive(x, slot));
            }));
        Due.holds(promise, "its former contents are gone", () -> eachHeld((state, x, slot) -> {
            States.writeAll(x, 8000);
            x.snapshotApply(slot);
            for (int addr = 0; addr < x.guestWords(); addr++) {
                Due.due(state + "read(" + addr + ") is a former word", x.read(addr) == 8000 + addr, false);
            }
            x.snapshotDelete(slot);
            x.commit();
            for (int addr = 0; addr < x.guestWords(); addr++) {
                Due.due(state + "a former word " + addr + " committed", x.readBacking(addr) == 8000 + addr, false);
            }
        }));
        Due.holds(promise, "The snapshot stays as it was", () -> eachHeld((state, x, slot) ->
            Seen.stays(state, x, Call.apply(slot), y -> Seen.slot(y, slot))));
        Due.holds(promise, "later changes of the active image do not change it",
            () -> eachHeld((state, x, slot) -> {
                int[] before = Seen.slot(x, slot);
                x.snapshotApply(slot);
                for (int addr = 0; addr < x.guestWords(); addr++) {
                    x.write(addr, 8000 + addr);
                    Due.same(state + "the snapshot after a write", Seen.slot(x, slot), before);
                }
                x.snapshotApply(slot);
                for (int cluster = 0; cluster < x.guestWords() / 4; cluster++) {
                    x.discard(cluster);
                    Due.same(state + "the snapshot after a discard", Seen.slot(x, slot), before);
                }
            }));
        Due.holds(promise, "The backing image is unchanged", () -> eachHeld((state, x, slot) ->
            Seen.stays(state, x, Call.apply(slot), Seen::backing)));
        Due.holds(promise, "every other snapshot is unchanged", () -> eachHeld((state, x, slot) -> {
            int[] before = slotsBut(x, slot);
            x.snapshotApply(slot);
            Due.same(state + "the other slots", slotsBut(x, slot), before);
            States.writeAll(x, 8000);
            Due.same(state + "the other slots after writes", slotsBut(x, slot), before);
        }));
        Due.holds(promise, "Clusters unallocated in the snapshot are unallocated afterwards, read the backing",
            BoundarySnapshotTest::applyUnallocated);
    }

    private static void applyUnallocated() throws Exception {
        eachHeld((state, x, slot) -> {
            States.writeAll(x, 8000);
            x.snapshotApply(slot);
            for (int addr = 0; addr < x.guestWords(); addr++) {
                boolean allocated = x.isSnapshotAllocated(slot, addr / 4);
                Due.due(state + "isAllocated", x.isAllocated(addr / 4), allocated);
                if (!allocated) {
                    Due.due(state + "read(" + addr + ")", x.read(addr), x.readBacking(addr));
                    x.writeBacking(addr, -9 - addr);
                    Due.due(state + "read(" + addr + ") later", x.read(addr), -9 - addr);
                }
            }
        });
    }

    private static void snapshotExists() {
        String promise = "Promise 13";
        Due.holds(promise, "answers false if slot < 0",
            () -> Wrong.refusedBelow(Call::exists));
        Due.holds(promise, "answers false if slot >= SLOTS",
            () -> Wrong.refusedFrom(x -> 4, Call::exists));
        Due.holds(promise, "else whether slot holds a snapshot", () -> {
            for (int set = 0; set < 16; set++) {
                QcowImage x = new QcowImage(1);
                for (int slot = 0; slot < 4; slot++) {
                    x.snapshotCreate(slot);
                }
                for (int slot = 0; slot < 4; slot++) {
                    if ((set >> slot & 1) == 0) {
                        x.snapshotDelete(slot);
                    }
                }
                for (int slot = 0; slot < 4; slot++) {
                    Due.due("snapshotExists(" + slot + ") of set " + set,
                        x.snapshotExists(slot), (set >> slot & 1) != 0);
                }
            }
        });
        Due.holds(promise, "Changes nothing", () -> States.each((state, maker) -> {
            for (int slot : new int[] {MIN, -1, 0, 1, 2, 3, 4, MAX}) {
                Seen.unchanged(state, maker.make(),
                    Call.exists(slot));
            }
        }));
    }

    private static void readSnapshot() {
        String promise = "Promise 14";
        Due.holds(promise, "answers 0 if slot < 0", () -> outsideSlots(Wrong.below(), true));
        Due.holds(promise, "answers 0 if slot >= SLOTS", () -> outsideSlots(Wrong.from(4), true));
        Due.holds(promise, "then 0 if slot holds no snapshot", () -> {
            eachEmpty((state, x, slot) -> {
                for (int addr = -1; addr <= x.guestWords(); addr++) {
                    Due.due(state + "readSnapshot " + addr, x.readSnapshot(slot, addr), 0);
                }
            });
            eachHeld((state, x, slot) -> {
                x.snapshotDelete(slot);
                for (int addr = -1; addr <= x.guestWords(); addr++) {
                    Due.due(state + "readSnapshot deleted " + addr, x.readSnapshot(slot, addr), 0);
                }
            });
        });
        Due.holds(promise, "then 0 if addr < 0", () -> eachHeld((state, x, slot) -> {
            Wrong.refused(state, x, Wrong.below(), addr -> Call.readSnapshot(slot, addr));
        }));
        Due.holds(promise, "then 0 if addr >= W", () -> eachHeld((state, x, slot) -> {
            Wrong.refused(state, x, Wrong.from(x.guestWords()), addr -> Call.readSnapshot(slot, addr));
        }));
        Due.holds(promise, "its own word if cluster addr / 4 is allocated in it, though it be 0",
            () -> {
                QcowImage x = new QcowImage(4);
                States.writeAllBacking(x, 1000);
                for (int addr = 0; addr < 64; addr++) {
                    x.write(addr, addr % 2);
                }
                x.snapshotCreate(2);
                x.commit();
                States.writeAllBacking(x, 3000);
                for (int addr = 0; addr < 64; addr++) {
                    Due.due("readSnapshot(2, " + addr + ")", x.readSnapshot(2, addr), addr % 2);
                }
            });
        Due.holds(promise, "else backing word addr (as the backing image is now)", () -> {
            for (int l1Size = 1; l1Size <= 4; l1Size++) {
                QcowImage x = States.make("snapshots of nothing", l1Size);
                for (int addr = 0; addr < 16 * l1Size; addr++) {
                    Due.due("readSnapshot(3, " + addr + ")", x.readSnapshot(3, addr), 1000 + addr);
                    x.writeBacking(addr, MIN + addr);
                    Due.due("readSnapshot(3, " + addr + ") later", x.readSnapshot(3, addr), MIN + addr);
                }
            }
        });
        Due.holds(promise, "Changes nothing", () -> States.each((state, maker) -> {
            for (int slot : new int[] {MIN, -1, 0, 1, 2, 3, 4, MAX}) {
                for (int addr : new int[] {MIN, -1, 0, 15, 16, 63, 64, MAX}) {
                    Seen.unchanged(state, maker.make(), Call.readSnapshot(slot, addr));
                }
            }
        }));
        Due.holds(promise, "unchanged by any call other than snapshotDelete(s), writeBacking and commit",
            () -> eachHeld((state, x, slot) -> {
                int[] before = Seen.words(x, slot);
                for (Call call : othersThan(slot, x.guestWords())) {
                    call.on(x);
                    Due.same(state + "the words after " + call.text(), Seen.words(x, slot), before);
                }
            }));
        Due.holds(promise, "writeBacking changes it only where unallocated, and only to readBacking(a)",
            () -> eachHeld((state, x, slot) -> {
                for (Call call : Call.writesOfBacking(x.guestWords())) {
                    onlyWhereUnallocated(state, x, slot, call);
                }
            }));
        Due.holds(promise, "commit changes it only where unallocated, and only to readBacking(a)",
            () -> eachHeld((state, x, slot) -> {
                onlyWhereUnallocated(state, x, slot, Call.commit());
                States.writeAll(x, 8000);
                onlyWhereUnallocated(state, x, slot, Call.commit());
            }));
    }

    private static void onlyWhereUnallocated(String state, QcowImage x, int slot, Call call) {
        int[] due = Seen.words(x, slot);
        int[] flags = Seen.flags(x, slot);
        call.on(x);
        for (int addr = 0; addr < due.length; addr++) {
            if (flags[addr / 4] == 0) {
                due[addr] = x.readBacking(addr);
            }
        }
        Due.same(state + "the words after " + call.text(), Seen.words(x, slot), due);
    }

    private static void outsideSlots(int[] slots, boolean words) throws Exception {
        States.each((state, maker) -> {
            QcowImage x = maker.make();
            for (int slot : slots) {
                for (int n : new int[] {MIN, -1, 0, 1, 3, 4, 15, 16, 63, 64, MAX}) {
                    Call call = words ? Call.readSnapshot(slot, n) : Call.isSnapshotAllocated(slot, n);
                    Due.due(state + call.text(), call.on(x), 0);
                }
            }
        });
    }

    private static void isSnapshotAllocated() {
        String promise = "Promise 15";
        Due.holds(promise, "answers false if slot < 0", () -> outsideSlots(Wrong.below(), false));
        Due.holds(promise, "answers false if slot >= SLOTS",
            () -> outsideSlots(Wrong.from(4), false));
        Due.holds(promise, "then false if slot holds no snapshot", () -> {
            eachEmpty((state, x, slot) -> {
                for (int cluster = -1; cluster <= x.guestWords() / 4; cluster++) {
                    Due.due(state + "isSnapshotAllocated " + cluster,
                        x.isSnapshotAllocated(slot, cluster), false);
                }
            });
            eachHeld((state, x, slot) -> {
                x.snapshotDelete(slot);
                for (int cluster = -1; cluster <= x.guestWords() / 4; cluster++) {
                    Due.due(state + "isSnapshotAllocated deleted " + cluster,
                        x.isSnapshotAllocated(slot, cluster), false);
                }
            });
        });
        Due.holds(promise, "then false if cluster < 0", () -> eachHeld((state, x, slot) -> {
            Wrong.refused(state, x, Wrong.below(), cluster -> Call.isSnapshotAllocated(slot, cluster));
        }));
        Due.holds(promise, "then false if cluster >= G", () -> eachHeld((state, x, slot) -> {
            Wrong.refused(state, x, Wrong.from(x.guestWords() / 4),
                cluster -> Call.isSnapshotAllocated(slot, cluster));
        }));
        Due.holds(promise, "Otherwise whether the guest cluster is allocated in it, 0 and G-1 too",
            () -> {
                for (int l1Size = 1; l1Size <= 4; l1Size++) {
                    for (int cluster = 0; cluster < 4 * l1Size; cluster++) {
                        QcowImage x = new QcowImage(l1Size);
                        x.write(4 * cluster, 0);
                        x.snapshotCreate(3);
                        x.discard(cluster);
                        for (int other = 0; other < 4 * l1Size; other++) {
                            Due.due("isSnapshotAllocated(3, " + other + ")",
                                x.isSnapshotAllocated(3, other), other == cluster);
                        }
                    }
                }
            });
        Due.holds(promise, "Changes nothing", () -> States.each((state, maker) -> {
            for (int slot : new int[] {MIN, -1, 0, 1, 2, 3, 4, MAX}) {
                for (int cluster : new int[] {MIN, -1, 0, 3, 4, 15, 16, MAX}) {
                    Seen.unchanged(state, maker.make(), Call.isSnapshotAllocated(slot, cluster));
                }
            }
        }));
        Due.holds(promise, "these answers change only when slot s is emptied by snapshotDelete(s)",
            () -> eachHeld((state, x, slot) -> {
                int[] before = Seen.flags(x, slot);
                List<Call> calls = new ArrayList<>(Call.writesOfBacking(x.guestWords()));
                calls.add(Call.commit());
                calls.addAll(othersThan(slot, x.guestWords()));
                calls.add(Call.commit());
                for (Call call : calls) {
                    call.on(x);
                    Due.same(state + "the flags after " + call.text(), Seen.flags(x, slot), before);
                }
                x.snapshotDelete(slot);
                Due.same(state + "the flags of the emptied slot", Seen.flags(x, slot), new int[before.length]);
            }));
    }
}
