/**
 * A copy-on-write disk image over a backing image, with snapshots, commit and
 * a reference-count checker.
 */
public final class QcowImage {
    public static final int CLUSTER_WORDS = 4;
    public static final int L2_ENTRIES = 4;
    public static final int SLOTS = 4;
    public static final int HOST_CLUSTERS = 128;

    private static final int MAX_L1_SIZE = 4;
    private static final int MAX_GUEST_WORDS = MAX_L1_SIZE * L2_ENTRIES * CLUSTER_WORDS;
    private static final int HOST_WORDS = HOST_CLUSTERS * CLUSTER_WORDS;

    // View s is the snapshot in slot s; the active image comes behind them.
    private static final int ACTIVE = SLOTS;
    private static final int VIEWS = SLOTS + 1;
    private static final int ALL_L1_ENTRIES = VIEWS * MAX_L1_SIZE;

    private final int l1Size;
    private final int[] backing = new int[MAX_GUEST_WORDS];
    // The L1 tables of all views, one behind the other, MAX_L1_SIZE apart.
    private final int[] l1Entries = new int[ALL_L1_ENTRIES];
    private final boolean[] viewExists = new boolean[VIEWS];
    private final int[] hostWords = new int[HOST_WORDS];
    private final int[] storedCounts = new int[HOST_CLUSTERS];

    public QcowImage(int l1Size) {
        this.l1Size = l1Size < 1 ? 1 : l1Size > MAX_L1_SIZE ? MAX_L1_SIZE : l1Size;
        viewExists[ACTIVE] = true;
    }

    public int guestWords() {
        return l1Size * L2_ENTRIES * CLUSTER_WORDS;
    }

    public boolean write(int addr, int value) {
        if (!isGuestWord(addr)) {
            return false;
        }
        int cluster = addr / CLUSTER_WORDS;
        int table = unsharedTable(cluster / L2_ENTRIES);
        int data = unsharedData(table, cluster);
        hostWords[data * CLUSTER_WORDS + addr % CLUSTER_WORDS] = value;
        return true;
    }

    public int read(int addr) {
        return isGuestWord(addr) ? wordInView(ACTIVE, addr) : 0;
    }

    public boolean discard(int cluster) {
        if (!isGuestCluster(cluster)) {
            return false;
        }
        int entry = dataEntry(ACTIVE, cluster);
        if (!namesHostCluster(entry)) {
            return false;
        }
        int table = unsharedTable(cluster / L2_ENTRIES);
        hostWords[table * CLUSTER_WORDS + cluster % L2_ENTRIES] = 0;
        storedCounts[entry - 1]--;
        return true;
    }

    public boolean writeBacking(int addr, int value) {
        if (!isGuestWord(addr)) {
            return false;
        }
        backing[addr] = value;
        return true;
    }

    public int readBacking(int addr) {
        return isGuestWord(addr) ? backing[addr] : 0;
    }

    public boolean isAllocated(int cluster) {
        return isGuestCluster(cluster) && isAllocatedIn(ACTIVE, cluster);
    }

    public int allocatedCount() {
        int count = 0;
        for (int cluster = 0; cluster < l1Size * L2_ENTRIES; cluster++) {
            if (isAllocatedIn(ACTIVE, cluster)) {
                count++;
            }
        }
        return count;
    }

    public boolean snapshotCreate(int slot) {
        if (!isSlot(slot) || viewExists[slot]) {
            return false;
        }
        shareTables(ACTIVE, slot);
        viewExists[slot] = true;
        return true;
    }

    public boolean snapshotDelete(int slot) {
        if (!holdsSnapshot(slot)) {
            return false;
        }
        releaseTables(slot);
        viewExists[slot] = false;
        return true;
    }

    public boolean snapshotApply(int slot) {
        if (!holdsSnapshot(slot)) {
            return false;
        }
        releaseTables(ACTIVE);
        shareTables(slot, ACTIVE);
        return true;
    }

    public boolean snapshotExists(int slot) {
        return holdsSnapshot(slot);
    }

    public int readSnapshot(int slot, int addr) {
        return holdsSnapshot(slot) && isGuestWord(addr) ? wordInView(slot, addr) : 0;
    }

    public boolean isSnapshotAllocated(int slot, int cluster) {
        return holdsSnapshot(slot) && isGuestCluster(cluster) && isAllocatedIn(slot, cluster);
    }

    public int commit() {
        int copied = 0;
        for (int cluster = 0; cluster < l1Size * L2_ENTRIES; cluster++) {
            int entry = dataEntry(ACTIVE, cluster);
            if (namesHostCluster(entry)) {
                copyToBacking(entry - 1, cluster);
                copied++;
            }
        }
        releaseTables(ACTIVE);
        return copied;
    }

    public int check() {
        int tables = liveTables();
        int faults = strayL1Entries() + strayL2Entries(tables);
        for (int host = 0; host < HOST_CLUSTERS; host++) {
            if (storedCounts[host] != references(host, tables)) {
                faults++;
            }
        }
        return faults;
    }

    private boolean isGuestWord(int addr) {
        return addr >= 0 && addr < l1Size * L2_ENTRIES * CLUSTER_WORDS;
    }

    private boolean isGuestCluster(int cluster) {
        return cluster >= 0 && cluster < l1Size * L2_ENTRIES;
    }

    private boolean isSlot(int slot) {
        return slot >= 0 && slot < SLOTS;
    }

    private boolean holdsSnapshot(int slot) {
        return isSlot(slot) && viewExists[slot];
    }

    // An entry that is neither 0 nor in range is one that check() reports; no
    // call makes one, and none may be led outside the store by it.
    private boolean namesHostCluster(int entry) {
        return entry > 0 && entry <= HOST_CLUSTERS;
    }

    private int dataEntry(int view, int cluster) {
        int entry = l1Entries[view * MAX_L1_SIZE + cluster / L2_ENTRIES];
        if (!namesHostCluster(entry)) {
            return 0;
        }
        return hostWords[(entry - 1) * CLUSTER_WORDS + cluster % L2_ENTRIES];
    }

    private boolean isAllocatedIn(int view, int cluster) {
        int entry = dataEntry(view, cluster);
        return namesHostCluster(entry);
    }

    private int wordInView(int view, int addr) {
        int entry = dataEntry(view, addr / CLUSTER_WORDS);
        if (!namesHostCluster(entry)) {
            return backing[addr];
        }
        return hostWords[(entry - 1) * CLUSTER_WORDS + addr % CLUSTER_WORDS];
    }

    // The active image's L2 table at this L1 index, made or copied first if
    // the active image has none or shares it, so that it may be changed.
    private int unsharedTable(int l1Index) {
        int position = ACTIVE * MAX_L1_SIZE + l1Index;
        int entry = l1Entries[position];
        boolean named = namesHostCluster(entry);
        if (named && storedCounts[entry - 1] == 1) {
            return entry - 1;
        }
        int table = takeHostCluster();
        if (named) {
            copyTable(entry - 1, table);
            storedCounts[entry - 1]--;
        } else {
            clearTable(table);
        }
        l1Entries[position] = table + 1;
        return table;
    }

    // The data cluster of a guest cluster of the active image, filled from the
    // backing image or copied first if there is none or it is shared.
    private int unsharedData(int table, int cluster) {
        int position = table * CLUSTER_WORDS + cluster % L2_ENTRIES;
        int entry = hostWords[position];
        boolean named = namesHostCluster(entry);
        if (named && storedCounts[entry - 1] == 1) {
            return entry - 1;
        }
        int data = takeHostCluster();
        if (named) {
            copyHostCluster(entry - 1, data);
            storedCounts[entry - 1]--;
        } else {
            copyFromBacking(cluster, data);
        }
        hostWords[position] = data + 1;
        return data;
    }

    // Five views of at most 4 tables and 16 data clusters use 100 host
    // clusters, so the search meets a free one before it gets to the last.
    private int takeHostCluster() {
        int host = 0;
        while (host < HOST_CLUSTERS - 1 && storedCounts[host] != 0) {
            host++;
        }
        storedCounts[host] = 1;
        return host;
    }

    private void clearTable(int table) {
        for (int i = 0; i < L2_ENTRIES; i++) {
            hostWords[table * CLUSTER_WORDS + i] = 0;
        }
    }

    // The new table names the same data clusters once more.
    private void copyTable(int from, int to) {
        copyHostCluster(from, to);
        for (int i = 0; i < L2_ENTRIES; i++) {
            int entry = hostWords[to * CLUSTER_WORDS + i];
            if (namesHostCluster(entry)) {
                storedCounts[entry - 1]++;
            }
        }
    }

    private void copyHostCluster(int from, int to) {
        for (int i = 0; i < CLUSTER_WORDS; i++) {
            hostWords[to * CLUSTER_WORDS + i] = hostWords[from * CLUSTER_WORDS + i];
        }
    }

    private void copyFromBacking(int cluster, int host) {
        for (int i = 0; i < CLUSTER_WORDS; i++) {
            hostWords[host * CLUSTER_WORDS + i] = backing[cluster * CLUSTER_WORDS + i];
        }
    }

    private void copyToBacking(int host, int cluster) {
        for (int i = 0; i < CLUSTER_WORDS; i++) {
            backing[cluster * CLUSTER_WORDS + i] = hostWords[host * CLUSTER_WORDS + i];
        }
    }

    // The L1 table of the view that receives must be empty. The data clusters'
    // counts stay: a table counts for them once, however many views share it.
    private void shareTables(int from, int to) {
        for (int i = 0; i < l1Size; i++) {
            int entry = l1Entries[from * MAX_L1_SIZE + i];
            l1Entries[to * MAX_L1_SIZE + i] = entry;
            if (namesHostCluster(entry)) {
                storedCounts[entry - 1]++;
            }
        }
    }

    private void releaseTables(int view) {
        for (int i = 0; i < l1Size; i++) {
            int position = view * MAX_L1_SIZE + i;
            int entry = l1Entries[position];
            if (namesHostCluster(entry)) {
                l1Entries[position] = 0;
                releaseTable(entry - 1);
            }
        }
    }

    // Only with its last reference does a table let go of its data clusters.
    private void releaseTable(int table) {
        storedCounts[table]--;
        if (storedCounts[table] != 0) {
            return;
        }
        for (int i = 0; i < L2_ENTRIES; i++) {
            int entry = hostWords[table * CLUSTER_WORDS + i];
            if (namesHostCluster(entry)) {
                storedCounts[entry - 1]--;
            }
        }
    }

    private boolean isLiveL1Entry(int position) {
        return viewExists[position / MAX_L1_SIZE] && position % MAX_L1_SIZE < l1Size;
    }

    private boolean isStray(int entry) {
        return entry < 0 || entry > HOST_CLUSTERS;
    }

    // One bit for each L1 entry, set where the entry is the first to name its
    // table: so each live table is met once, however many entries name it.
    private int liveTables() {
        int tables = 0;
        for (int position = 0; position < ALL_L1_ENTRIES; position++) {
            int entry = l1Entries[position];
            if (isLiveL1Entry(position) && namesHostCluster(entry) && !isNamedBefore(position)) {
                tables |= 1 << position;
            }
        }
        return tables;
    }

    private boolean isNamedBefore(int position) {
        for (int earlier = 0; earlier < position; earlier++) {
            if (isLiveL1Entry(earlier) && l1Entries[earlier] == l1Entries[position]) {
                return true;
            }
        }
        return false;
    }

    private boolean isTableAt(int tables, int position) {
        return (tables >>> position & 1) != 0;
    }

    private int strayL1Entries() {
        int strays = 0;
        for (int position = 0; position < ALL_L1_ENTRIES; position++) {
            if (isLiveL1Entry(position) && isStray(l1Entries[position])) {
                strays++;
            }
        }
        return strays;
    }

    private int strayL2Entries(int tables) {
        int strays = 0;
        for (int position = 0; position < ALL_L1_ENTRIES; position++) {
            if (isTableAt(tables, position)) {
                strays += strayEntriesIn(l1Entries[position] - 1);
            }
        }
        return strays;
    }

    private int strayEntriesIn(int table) {
        int strays = 0;
        for (int i = 0; i < L2_ENTRIES; i++) {
            if (isStray(hostWords[table * CLUSTER_WORDS + i])) {
                strays++;
            }
        }
        return strays;
    }

    private int references(int host, int tables) {
        int count = 0;
        for (int position = 0; position < ALL_L1_ENTRIES; position++) {
            if (isLiveL1Entry(position) && l1Entries[position] == host + 1) {
                count++;
            }
            if (isTableAt(tables, position)) {
                count += namingsIn(l1Entries[position] - 1, host);
            }
        }
        return count;
    }

    private int namingsIn(int table, int host) {
        int count = 0;
        for (int i = 0; i < L2_ENTRIES; i++) {
            if (hostWords[table * CLUSTER_WORDS + i] == host + 1) {
                count++;
            }
        }
        return count;
    }
}
