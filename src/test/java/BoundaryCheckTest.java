import java.util.ArrayList;
import java.util.List;

/** The sentences of promise 17 that name a boundary, a test for each. */
public final class BoundaryCheckTest {
    public static void main(String[] args) {
        check();
        Due.end();
    }

    private static void check() {
        String promise = "Promise 17";
        Due.holds(promise, "check() changes nothing", () -> States.each((state, maker) -> {
            Seen.unchanged(state, maker.make(), Call.check(), 0);
        }));
        Due.holds(promise, "live L1 tables are those of the active image and of each existing snapshot",
            () -> {
                for (int view = 0; view <= 4; view++) {
                    QcowImage x = States.make("mixed", 1);
                    boolean live = view == 4 || x.snapshotExists(view);
                    Store.l1(x)[4 * view] = 129;
                    Due.due("check() reports view " + view, x.check() > 0, live);
                }
            });
        Due.holds(promise, "an L1 table has l1Size entries, and no more are live", () -> {
            for (int l1Size = 1; l1Size <= 4; l1Size++) {
                for (int i = 0; i < 4; i++) {
                    QcowImage x = new QcowImage(l1Size);
                    Store.l1(x)[Store.ACTIVE_L1 + i] = 129;
                    Due.due("check() with L1 entry " + i + " of " + l1Size, x.check(), i < l1Size ? 1 : 0);
                }
            }
        });
        Due.holds(promise, "a live L2 table is a host cluster named by at least one live L1 entry",
            BoundaryCheckTest::liveTables);
        Due.holds(promise, "r(h): the live L1 entries naming h, plus the entries in live L2 tables naming h",
            BoundaryCheckTest::bothKindsOfNaming);
        Due.holds(promise, "Each live L2 table is counted once, however many L1 entries name it", () -> {
            QcowImage x = new QcowImage(4);
            x.write(0, 1);
            for (int views = 1; views <= 4; views++) {
                x.snapshotCreate(views - 1);
                int table = Store.tableOf(x, 0);
                int data = Store.words(x)[4 * table] - 1;
                Due.due("count of the table of " + views + " snapshots", Store.counts(x)[table], views + 1);
                Due.due("count of its data cluster", Store.counts(x)[data], 1);
                Due.due("check()", x.check(), 0);
            }
        });
        Due.holds(promise, "the number of h in 0..127 whose stored count differs from r(h)", () -> {
            for (int host = 0; host < 128; host++) {
                QcowImage x = States.make("mixed", 4);
                Store.counts(x)[host]--;
                Due.due("check() with count " + host + " too low", x.check(), 1);
                Store.counts(x)[host] += 2;
                Due.due("check() with count " + host + " too high", x.check(), 1);
            }
            QcowImage x = States.make("full", 4);
            for (int host = 0; host < 128; host++) {
                Store.counts(x)[host] += 5;
            }
            Due.due("check() with all counts wrong", x.check(), 128);
        });
        Due.holds(promise, "plus the live L1 entries whose value lies outside 0..128",
            () -> eachL1Entry((x, position, value) -> {
                Store.l1(x)[position] = value;
                faultsOfEntry(x, "L1 entry", value);
            }));
        Due.holds(promise, "plus the live L2 entries whose value lies outside 0..128",
            () -> eachL1Entry((x, position, value) -> {
                Store.l1(x)[position] = 64;
                Store.counts(x)[63] = 1;
                Store.words(x)[4 * 63 + position % 4] = value;
                faultsOfEntry(x, "L2 entry", value);
            }));
        Due.holds(promise, "Every state that any sequence of calls can reach answers 0",
            BoundaryCheckTest::everySequence);
        Due.holds(promise, "check() answers 0 after construction", () -> {
            for (int l1Size : Wrong.outside(0)) {
                Due.due("check() of QcowImage(" + l1Size + ")", new QcowImage(l1Size).check(), 0);
            }
        });
        Due.holds(promise, "and after every call of every method",
            () -> States.each((state, maker) -> {
                int words = maker.make().guestWords();
                List<Call> calls = new ArrayList<>(Call.writes(words));
                calls.addAll(Call.writesOfBacking(words));
                calls.addAll(Call.discards(words));
                calls.addAll(Call.ofSlots());
                calls.add(Call.commit());
                calls.addAll(Call.asking(0));
                checkEach(state, maker, calls);
            }));
        Due.holds(promise, "with any arguments, refused or not",
            () -> States.each((state, maker) -> {
                int words = maker.make().guestWords();
                List<Call> calls = new ArrayList<>();
                for (int n : Wrong.outside(words)) {
                    calls.addAll(Call.changing(n));
                    calls.addAll(Call.asking(n));
                }
                checkEach(state, maker, calls);
            }));
    }

    private interface EntryTest {
        void run(QcowImage x, int position, int value) throws Exception;
    }

    /** Each L1 entry of five views without any table, with values inside the range and outside. */
    private static void eachL1Entry(EntryTest test) throws Exception {
        int[] values = {Integer.MIN_VALUE, -1, 0, 1, 128, 129, 130, Integer.MAX_VALUE};
        for (int position = 0; position < 20; position++) {
            for (int value : values) {
                QcowImage x = new QcowImage(4);
                for (int slot = 0; slot < 4; slot++) {
                    x.snapshotCreate(slot);
                }
                test.run(x, position, value);
            }
        }
    }

    /** A value in range names a host cluster whose count is 0, and that is one fault too. */
    private static void faultsOfEntry(QcowImage x, String entry, int value)
            throws ReflectiveOperationException {
        Due.due("check() with " + entry + " " + value, x.check(), value == 0 ? 0 : 1);
        if (value > 0 && value <= 128) {
            Store.counts(x)[value - 1] = 1;
            Due.due("check() with " + entry + " " + value + " counted", x.check(), 0);
        }
    }

    /** A table whose entries are all astray, named by one view or another. */
    private static void liveTables() throws ReflectiveOperationException {
        for (int view = 0; view <= 4; view++) {
            QcowImage x = States.make("snapshots of nothing", 1);
            x.commit();
            boolean live = view == 4 || x.snapshotExists(view);
            for (int i = 0; i < 4; i++) {
                Store.words(x)[4 * 127 + i] = 129 + i;
            }
            Due.due("check() with the table named by no view", x.check(), 0);
            Store.l1(x)[4 * view] = 128;
            Store.counts(x)[127] = live ? 1 : 0;
            Due.due("check() with the table named by view " + view, x.check(), live ? 4 : 0);
        }
    }

    /** All sequences of five out of ten calls, with check() after each call. */
    private static void everySequence() {
        List<Call> calls = List.of(Call.write(0, 1), Call.write(5, 2), Call.write(16, 3),
            Call.discard(0), Call.create(0), Call.create(3), Call.apply(0), Call.apply(3),
            Call.delete(0), Call.commit());
        for (int code = 0; code < 100000; code++) {
            QcowImage x = new QcowImage(2);
            String row = "";
            for (int rest = code, i = 0; i < 5; rest /= 10, i++) {
                Call call = calls.get(rest % 10);
                call.on(x);
                row += call.text() + " ";
                Due.due("check() after " + row, x.check(), 0);
            }
        }
    }

    /** check() after each call alone, and after each in a row with the others. */
    private static void checkEach(String state, States.Maker maker, List<Call> calls) {
        QcowImage row = maker.make();
        for (Call call : calls) {
            QcowImage alone = maker.make();
            call.on(alone);
            Due.due(state + "check() after " + call.text(), alone.check(), 0);
            call.on(row);
            Due.due(state + "check() after the row to " + call.text(), row.check(), 0);
        }
    }

    private static void bothKindsOfNaming() throws ReflectiveOperationException {
        for (int host = 0; host < 128; host++) {
            QcowImage x = new QcowImage(4);
            int table = (host + 1) % 128;
            // The host cluster is named by an L1 entry, by another table twice, and by itself.
            Store.l1(x)[Store.ACTIVE_L1] = host + 1;
            Store.l1(x)[Store.ACTIVE_L1 + 1] = table + 1;
            Store.words(x)[4 * table] = host + 1;
            Store.words(x)[4 * table + 3] = host + 1;
            Store.words(x)[4 * host + 2] = host + 1;
            Store.counts(x)[table] = 1;
            Store.counts(x)[host] = 4;
            Due.due("check() with host cluster " + host + " named four times", x.check(), 0);
            Store.l1(x)[Store.ACTIVE_L1 + 1] = 0;
            Store.counts(x)[table] = 0;
            Due.due("check() when two namings are not live", x.check(), 1);
            Store.counts(x)[host] = 2;
            Due.due("check() when they are not counted", x.check(), 0);
        }
    }
}
