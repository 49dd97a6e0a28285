/**
 * Images to start from, of every size. But in the new one, no word of any view is 0 and no two
 * views hold the same words of their own, so that a word read from a wrong place is told apart.
 */
final class States {
    interface Maker {
        QcowImage make();
    }

    interface Test {
        void run(String state, Maker maker) throws Exception;
    }

    static final String[] NAMES = {
        "new", "mixed", "shared", "full", "emptied", "holed", "snapshots of nothing"
    };

    private States() {
    }

    /** Every state in every size; the maker makes the same image anew each time. */
    static void each(Test test) throws Exception {
        for (String name : NAMES) {
            for (int l1Size = 1; l1Size <= 4; l1Size++) {
                int size = l1Size;
                test.run(name + ", " + 16 * size + " words: ", () -> make(name, size));
            }
        }
    }

    static QcowImage make(String name, int l1Size) {
        QcowImage x = new QcowImage(l1Size);
        switch (name) {
            case "new" -> { }
            case "mixed" -> mix(x);
            case "shared" -> share(x);
            case "full" -> fill(x);
            case "emptied" -> empty(x);
            case "holed" -> hole(x);
            default -> snapshotNothing(x);
        }
        return x;
    }

    /** Some clusters are allocated, shared or not, and slots 0 and 2 hold snapshots. */
    private static void mix(QcowImage x) {
        int last = x.guestWords() - 1;
        writeAllBacking(x, 1000);
        x.write(0, 2000);
        x.write(last, 2001);
        x.snapshotCreate(0);
        x.write(1, 2002);
        x.write(5, 2003);
        x.snapshotCreate(2);
        x.write(last - 1, 2004);
        x.discard(1);
        x.write(8, 2005);
    }

    /** Every cluster is allocated and all five views share it. */
    private static void share(QcowImage x) {
        writeAllBacking(x, 1000);
        writeAll(x, 2000);
        for (int slot = 0; slot < 4; slot++) {
            x.snapshotCreate(slot);
        }
    }

    /** Every view has every cluster for itself: the store is as full as it can be. */
    private static void fill(QcowImage x) {
        writeAllBacking(x, 1000);
        for (int slot = 0; slot < 4; slot++) {
            writeAll(x, 2000 + 1000 * slot);
            x.snapshotCreate(slot);
        }
        writeAll(x, 7000);
    }

    /** Nothing is left but the backing image, after the store was full. */
    private static void empty(QcowImage x) {
        fill(x);
        for (int slot = 0; slot < 4; slot++) {
            x.snapshotDelete(slot);
        }
        for (int cluster = 0; cluster < x.guestWords() / 4; cluster++) {
            x.discard(cluster);
        }
    }

    /** Free host clusters lie between used ones, and the last L2 table is still to be made. */
    private static void hole(QcowImage x) {
        writeAllBacking(x, 1000);
        for (int addr = 0; addr < x.guestWords() - 16; addr += 4) {
            x.write(addr, 2000 + addr);
        }
        for (int cluster = 0; cluster < x.guestWords() / 4; cluster += 2) {
            x.discard(cluster);
        }
    }

    /** The active image is allocated throughout, and slots 1 and 3 hold snapshots of nothing. */
    private static void snapshotNothing(QcowImage x) {
        writeAllBacking(x, 1000);
        x.snapshotCreate(1);
        x.snapshotCreate(3);
        writeAll(x, 2000);
    }

    static void writeAll(QcowImage x, int base) {
        for (int addr = 0; addr < x.guestWords(); addr++) {
            x.write(addr, base + addr);
        }
    }

    static void writeAllBacking(QcowImage x, int base) {
        for (int addr = 0; addr < x.guestWords(); addr++) {
            x.writeBacking(addr, base + addr);
        }
    }
}
