/**
 * The plain meaning of the document: for every view a table of allocation flags and contents,
 * over a flat backing array, with no sharing at all.
 */
final class Model {
    private static final int SLOTS = 4;

    private final int clusters;
    private final int[] backing;
    private final boolean[] exists = new boolean[SLOTS];
    private final boolean[][] snapshotFlags = new boolean[SLOTS][];
    private final int[][] snapshotWords = new int[SLOTS][];
    private boolean[] flags;
    private int[] words;

    Model(int l1Size) {
        int size = Math.min(4, Math.max(1, l1Size));
        clusters = 4 * size;
        backing = new int[16 * size];
        words = new int[16 * size];
        flags = new boolean[clusters];
    }

    int guestWords() {
        return backing.length;
    }

    boolean write(int addr, int value) {
        if (!isWord(addr)) {
            return false;
        }
        int c = addr / 4;
        if (!flags[c]) {
            System.arraycopy(backing, 4 * c, words, 4 * c, 4);
            flags[c] = true;
        }
        words[addr] = value;
        return true;
    }

    int read(int addr) {
        return !isWord(addr) ? 0 : flags[addr / 4] ? words[addr] : backing[addr];
    }

    boolean discard(int cluster) {
        boolean was = isAllocated(cluster);
        if (was) {
            flags[cluster] = false;
        }
        return was;
    }

    boolean writeBacking(int addr, int value) {
        if (!isWord(addr)) {
            return false;
        }
        backing[addr] = value;
        return true;
    }

    int readBacking(int addr) {
        return isWord(addr) ? backing[addr] : 0;
    }

    boolean isAllocated(int cluster) {
        return isCluster(cluster) && flags[cluster];
    }

    int allocatedCount() {
        int count = 0;
        for (boolean flag : flags) {
            count += flag ? 1 : 0;
        }
        return count;
    }

    boolean snapshotCreate(int slot) {
        if (!isSlot(slot) || exists[slot]) {
            return false;
        }
        exists[slot] = true;
        snapshotFlags[slot] = flags.clone();
        snapshotWords[slot] = words.clone();
        return true;
    }

    boolean snapshotDelete(int slot) {
        boolean was = snapshotExists(slot);
        if (was) {
            exists[slot] = false;
        }
        return was;
    }

    boolean snapshotApply(int slot) {
        if (!snapshotExists(slot)) {
            return false;
        }
        flags = snapshotFlags[slot].clone();
        words = snapshotWords[slot].clone();
        return true;
    }

    boolean snapshotExists(int slot) {
        return isSlot(slot) && exists[slot];
    }

    int readSnapshot(int slot, int addr) {
        if (!snapshotExists(slot) || !isWord(addr)) {
            return 0;
        }
        return snapshotFlags[slot][addr / 4] ? snapshotWords[slot][addr] : backing[addr];
    }

    boolean isSnapshotAllocated(int slot, int cluster) {
        return snapshotExists(slot) && isCluster(cluster) && snapshotFlags[slot][cluster];
    }

    int commit() {
        int copied = 0;
        for (int c = 0; c < clusters; c++) {
            if (flags[c]) {
                System.arraycopy(words, 4 * c, backing, 4 * c, 4);
                flags[c] = false;
                copied++;
            }
        }
        return copied;
    }

    private boolean isWord(int addr) {
        return addr >= 0 && addr < backing.length;
    }

    private boolean isCluster(int cluster) {
        return cluster >= 0 && cluster < clusters;
    }

    private static boolean isSlot(int slot) {
        return slot >= 0 && slot < SLOTS;
    }
}
