import java.util.ArrayList;
import java.util.List;
import java.util.function.ToIntFunction;

/** A call that can be made on any image; a boolean answer counts 1 or 0. */
record Call(String text, ToIntFunction<QcowImage> made) {
    int on(QcowImage x) {
        return made.applyAsInt(x);
    }

    static List<Call> writes(int words) {
        List<Call> calls = new ArrayList<>();
        for (int n = 0; n < words; n++) {
            calls.add(write(n, 9000 + n));
        }
        return calls;
    }

    static List<Call> writesOfBacking(int words) {
        List<Call> calls = new ArrayList<>();
        for (int n = 0; n < words; n++) {
            calls.add(writeBacking(n, 9000 + n));
        }
        return calls;
    }

    static List<Call> discards(int words) {
        List<Call> calls = new ArrayList<>();
        for (int n = 0; n < words / 4; n++) {
            calls.add(discard(n));
        }
        return calls;
    }

    static List<Call> ofSlots() {
        List<Call> calls = new ArrayList<>();
        for (int n = 0; n < 4; n++) {
            calls.add(create(n));
            calls.add(delete(n));
            calls.add(apply(n));
        }
        return calls;
    }

    /** Every call that only asks, with this number in every place. */
    static List<Call> asking(int n) {
        return List.of(guestWords(), read(n), readBacking(n), isAllocated(n), allocatedCount(),
            exists(n), readSnapshot(n, n), isSnapshotAllocated(n, n), check());
    }

    /** Every call that may change something, with this number in every place. */
    static List<Call> changing(int n) {
        return List.of(write(n, n), writeBacking(n, n), discard(n), create(n), apply(n), delete(n),
            commit());
    }

    static Call guestWords() {
        return new Call("guestWords()", QcowImage::guestWords);
    }

    static Call read(int addr) {
        return new Call("read(" + addr + ")", x -> x.read(addr));
    }

    static Call readBacking(int addr) {
        return new Call("readBacking(" + addr + ")", x -> x.readBacking(addr));
    }

    static Call isAllocated(int cluster) {
        return new Call("isAllocated(" + cluster + ")", x -> Seen.bit(x.isAllocated(cluster)));
    }

    static Call allocatedCount() {
        return new Call("allocatedCount()", QcowImage::allocatedCount);
    }

    static Call exists(int slot) {
        return new Call("snapshotExists(" + slot + ")", x -> Seen.bit(x.snapshotExists(slot)));
    }

    static Call check() {
        return new Call("check()", QcowImage::check);
    }

    static Call write(int addr, int value) {
        return new Call("write(" + addr + ", " + value + ")", x -> Seen.bit(x.write(addr, value)));
    }

    static Call writeBacking(int addr, int value) {
        return new Call("writeBacking(" + addr + ", " + value + ")",
            x -> Seen.bit(x.writeBacking(addr, value)));
    }

    static Call discard(int cluster) {
        return new Call("discard(" + cluster + ")", x -> Seen.bit(x.discard(cluster)));
    }

    static Call create(int slot) {
        return new Call("snapshotCreate(" + slot + ")", x -> Seen.bit(x.snapshotCreate(slot)));
    }

    static Call delete(int slot) {
        return new Call("snapshotDelete(" + slot + ")", x -> Seen.bit(x.snapshotDelete(slot)));
    }

    static Call apply(int slot) {
        return new Call("snapshotApply(" + slot + ")", x -> Seen.bit(x.snapshotApply(slot)));
    }

    static Call readSnapshot(int slot, int addr) {
        return new Call("readSnapshot(" + slot + ", " + addr + ")", x -> x.readSnapshot(slot, addr));
    }

    static Call isSnapshotAllocated(int slot, int cluster) {
        return new Call("isSnapshotAllocated(" + slot + ", " + cluster + ")",
            x -> Seen.bit(x.isSnapshotAllocated(slot, cluster)));
    }

    static Call commit() {
        return new Call("commit()", QcowImage::commit);
    }
}
