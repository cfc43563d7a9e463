import java.util.List;
import java.util.function.ToIntFunction;

/** The edges of promises 32 to 35: undo, the snapshot and counts, and what errors leave unchanged. */
final class UndoEdges extends Edges {
    /** Each kind of change, as a call that succeeds on busy(). */
    private static final List<ToIntFunction<PaperCutter>> CHANGES = List.of(x -> x.set(1, 7),
        x -> x.addOrder(0, 10, 1, 0, 0, 0), x -> x.addRoll(0, 50, 1), x -> Checks.run(x, "1x0", 0, 1), x -> x.cut(0),
        x -> x.cutAll(), x -> x.remove(0), x -> x.swap(0, 2), x -> x.split(0, 1), x -> x.arrange(0), x -> x.arrange(1),
        x -> x.keep(0), x -> Checks.execute(x, "roll 0 50 1;cut 0;arrange 0"));

    /** The same where nothing changes. */
    private static final List<ToIntFunction<PaperCutter>> IDLE = List.of(x -> x.set(0, 6), x -> x.set(1, 3),
        x -> x.set(2, 20), x -> x.swap(1, 1), x -> Checks.execute(x, "arrange 0;arrange 0"));

    UndoEdges(Checks checks, Sentences sentences) {
        super(checks, sentences);
    }

    @Override
    void all() {
        undoing();
        snapshots();
        counts();
        errors();
    }

    // ---- promise 32

    private void undoing() {
        test(32, "The changes are the successful calls of set, addOrder, addRoll, run, cut, cutAll, remove, swap,"
            + " split, arrange, keep and execute, also those by which nothing changes.", this::eachChange);
        test(32, "also those by which nothing changes.", this::idleChanges);
        test(32, "At most 8 of them can be undone, the latest first.", this::eight);
        test(32, "Undoes the latest change that can be undone.", this::latest);
        test(32, "Returns the number of changes that can still be undone; NOTHING if there is none.", this::nothing);
    }

    private void eachChange(PaperCutter x) {
        for (int i = 0; i < CHANGES.size(); i++) {
            PaperCutter y = busy();
            y.undo();
            String before = Look.stock(y);
            due("change " + i, CHANGES.get(i).applyAsInt(y) >= 0 ? 1 : 0, 1);
            due("changes behind " + i, y.count(0), 8);
            due("undo of " + i, y.undo(), 7);
            same(Look.stock(y), before);
            same(Look.past(y), Look.past(undone(busy())));
        }
    }

    private static PaperCutter undone(PaperCutter x) {
        x.undo();
        return x;
    }

    private void idleChanges(PaperCutter x) {
        for (int i = 0; i < IDLE.size(); i++) {
            PaperCutter y = withRuns(3);
            String before = Look.stock(y);
            due("change " + i, IDLE.get(i).applyAsInt(y) >= 0 ? 1 : 0, 1);
            due("changes behind " + i, y.count(0), 6);
            same(Look.stock(y), before);
            due("undo of " + i, y.undo(), 5);
            same(Look.stock(y), before);
        }
        due(x.cutAll(), 0);
        due(x.arrange(0), 0);
        due(x.arrange(1), 0);
        due(Checks.execute(x, "all;arrange 1"), 2);
        due(x.count(0), 4);
    }

    private void eight(PaperCutter x) {
        for (int i = 1; i <= 8; i++) {
            x.addRoll(0, 50 + i, 1);
            due(x.count(0), i);
        }
        x.addRoll(0, 59, 1);
        due(x.count(0), 8);
        for (int i = 7; i >= 0; i--) {
            due(x.undo(), i);
            due(x.account(8), i + 1);
        }
        due(x.undo(), NOTHING);
        due(x.account(8), 1);
        due(x.roll(0, 1), 51);
        for (int i = 0; i < 30; i++) {
            x.set(2, 10 + i);
        }
        for (int i = 28; i >= 22; i--) {
            due(x.undo(), i - 21);
            due(x.count(4), 10 + i);
        }
        due(x.undo(), 0);
        due(x.count(4), 10 + 21);
        due(x.undo(), NOTHING);
        due(x.count(4), 10 + 21);
    }

    private void latest(PaperCutter x) {
        x.set(2, 30);
        x.set(2, 40);
        due(x.undo(), 1);
        due(x.count(4), 30);
        x.set(2, 50);
        due(x.undo(), 1);
        due(x.count(4), 30);
        due(x.undo(), 0);
        due(x.count(4), 20);
        for (int i = 0; i < 13; i++) {
            x.set(2, 20 + i);
        }
        for (int i = 0; i < 5; i++) {
            x.undo();
        }
        due(x.count(4), 27);
        for (int i = 0; i < 4; i++) {
            x.set(2, 60 + i);
        }
        due(x.count(0), 7);
        int[] values = {62, 61, 60, 27, 26, 25, 24};
        for (int i = 0; i < 7; i++) {
            due(x.undo(), 6 - i);
            due(x.count(4), values[i]);
        }
        due(x.undo(), NOTHING);
    }

    private void nothing(PaperCutter x) {
        due(x.undo(), NOTHING);
        x.append('a');
        x.save();
        due(x.undo(), NOTHING);
        x.set(0, 5);
        due(x.undo(), 0);
        due(x.undo(), NOTHING);
        refused(NOTHING, UndoEdges::withoutChanges, y -> y.undo());
    }

    private static PaperCutter withoutChanges() {
        PaperCutter x = typing();
        for (int i = 0; i < 8; i++) {
            x.undo();
        }
        return x;
    }

    // ---- promises 33 and 34

    private void snapshots() {
        test(33, "Saves a snapshot of the settings, orders, rolls and runs, in place of an earlier one.", this::saves);
        test(33, "Saves a snapshot of the settings, orders, rolls and runs", this::savesEachNumber);
        test(33, "Returns the number of runs.", this::runsSaved);
        test(34, "Restores the snapshot, which stays.", this::stays);
        test(34, "No changes can be undone then.", this::noChanges);
        test(34, "Returns the number of runs; NOTHING if there is no snapshot.", this::noSnapshot);
        test(34, "The snapshot and undo do not concern the text, the written text and the reasons.", this::concerns);
    }

    private void saves(PaperCutter x) {
        for (int i = 0; i < CHANGES.size(); i++) {
            PaperCutter y = busy();
            y.save();
            String saved = Look.stock(y);
            CHANGES.get(i).applyAsInt(y);
            due("restore behind " + i, y.restore(), 3);
            same(Look.stock(y), saved);
        }
        due(x.save(), 0);
        x.set(0, 2);
        x.addRoll(0, 50, 1);
        due(x.save(), 0);
        x.set(0, 3);
        x.restore();
        due(x.count(2), 2);
        due(x.account(8), 1);
    }

    private void savesEachNumber(PaperCutter x) {
        x.addOrder(1, 50, 60, 10, 4, 1);
        x.addRoll(1, 200, 90);
        Checks.run(x, "1x0", 0, 3);
        x.save();
        String saved = Look.stock(x);
        x.undo();
        x.undo();
        x.undo();
        due(x.addOrder(2, 40, 70, 20, 5, 0), 0);
        due(x.addRoll(2, 300, 80), 0);
        due(Checks.run(x, "2x0", 0, 4), 0);
        due(x.restore(), 1);
        same(Look.stock(x), saved);
    }

    private void runsSaved(PaperCutter x) {
        due(x.save(), 0);
        due(withRuns(1).save(), 1);
        due(withRuns(16).save(), 16);
        PaperCutter y = withRuns(3);
        int changes = y.count(0);
        String before = Look.stock(y);
        due(y.save(), 3);
        due(y.count(0), changes);
        same(Look.stock(y), before);
        due(y.undo(), changes - 1);
        due(y.account(7), 2);
    }

    private void stays(PaperCutter x) {
        PaperCutter y = withRuns(16);
        y.save();
        String saved = Look.stock(y);
        for (int i = 0; i < 3; i++) {
            y.remove(i);
            y.swap(0, 1 + i);
            due(y.restore(), 16);
        }
        y.split(0, 1);
        y.undo();
        due(y.restore(), 16);
        same(Look.stock(y), saved);
        x.save();
        for (int i = 0; i < 12; i++) {
            x.addRoll(0, 50, 1);
        }
        due(x.restore(), 0);
        due(x.account(8), 0);
        due(x.restore(), 0);
    }

    private void noChanges(PaperCutter x) {
        PaperCutter y = withRuns(9);
        y.save();
        due(y.count(0), 8);
        due(y.restore(), 9);
        due(y.count(0), 0);
        due(y.undo(), NOTHING);
        due(y.account(7), 9);
        y.remove(0);
        due(y.count(0), 1);
        due(y.undo(), 0);
        due(y.account(7), 9);
        due(y.undo(), NOTHING);
    }

    private void noSnapshot(PaperCutter x) {
        due(x.restore(), NOTHING);
        PaperCutter y = withRuns(2);
        due(y.restore(), NOTHING);
        due(y.count(0), 4);
        due(y.account(7), 2);
        refused(NOTHING, () -> withRuns(2), z -> z.restore());
        y.save();
        y.undo();
        due(y.restore(), 2);
        due(withRuns(0).restore(), NOTHING);
    }

    private void concerns(PaperCutter x) {
        PaperCutter y = typing();
        due(Checks.type(y, "0"), 3);
        String aside = Look.aside(y);
        y.undo();
        same(Look.aside(y), aside);
        y.save();
        same(Look.aside(y), aside);
        y.append('+');
        y.restore();
        due(y.count(1), 4);
        due(y.append('1'), 5);
        same(Checks.written(y), "1x0+1x1");
        due(y.run(0, 1), -1005);
        each(what -> y.reason(what), NONE, 0);
    }

    // ---- promise 35

    private void counts() {
        test(35, "`what`: 0 for the changes that can be undone, 1 for the characters of the text, 2 for the knives, 3"
            + " for the edge, 4 for the least width of a remnant", this::eachCount);
        test(35, "Returns a count.", this::extremes);
        test(35, "Returns the count; BAD if there is no such what.", this::noCount);
    }

    private void eachCount(PaperCutter x) {
        each(what -> x.count(what), 0, 0, 6, 3, 20, BAD);
        x.append('a');
        x.set(2, 33);
        each(what -> x.count(what), 1, 1, 6, 3, 33, BAD);
        x.set(1, 4);
        x.append('a');
        x.append('a');
        each(what -> x.count(what), 2, 3, 6, 4, 33, BAD);
        x.set(0, 5);
        each(what -> x.count(what), 3, 3, 5, 4, 33, BAD);
        x.undo();
        each(what -> x.count(what), 2, 3, 6, 4, 33, BAD);
        x.execute();
        each(what -> x.count(what), 2, 0, 6, 4, 33, BAD);
    }

    private void extremes(PaperCutter x) {
        Checks.type(x, "a".repeat(81));
        x.set(0, 2);
        x.set(0, 7);
        x.set(1, 0);
        x.set(2, 10);
        each(what -> x.count(what), 4, 80, 7, 0, 10);
        for (int i = 0; i < 5; i++) {
            x.set(0, 2);
            x.set(1, 20);
            x.set(2, 99);
        }
        each(what -> x.count(what), 8, 80, 2, 20, 99);
    }

    private void noCount(PaperCutter x) {
        due(x.count(-1), BAD);
        due(x.count(5), BAD);
        far(BAD, what -> x.count(what));
        refused(BAD, Edges::typing, y -> y.count(5));
        refused(BAD, Edges::typing, y -> y.count(-1));
    }

    // ---- errors

    private void errors() {
        test(32, "A call that returns an error code leaves the state unchanged, except that calls that read the text"
            + " empty it, and that run and execute keep their reasons.", this::noChangeByErrors);
        test(32, "If several errors apply, the one that is listed first is returned.", this::firstListed);
    }

    private void noChangeByErrors(PaperCutter x) {
        List<ToIntFunction<PaperCutter>> wrong = List.of(y -> y.set(3, 0), y -> y.addOrder(4, 10, 1, 0, 0, 0),
            y -> y.addRoll(0, 49, 1), y -> y.cut(9), y -> y.remove(1), y -> y.swap(0, 3), y -> y.split(0, 9),
            y -> y.split(1, 1), y -> y.write(3), y -> y.arrange(2), y -> y.keep(1), y -> y.append(127),
            y -> y.best(0, 4),
            y -> y.again(3), y -> y.patterns(3), y -> y.ifAll(5), y -> y.count(5), y -> y.reason(2), y -> y.explain(2));
        PaperCutter y = typing();
        String before = Look.stock(y);
        for (int i = 0; i < wrong.size(); i++) {
            due("call " + i + " is an error", wrong.get(i).applyAsInt(y) < 0 ? 1 : 0, 1);
        }
        due(y.count(0), 8);
        due(y.count(1), 2);
        same(Look.stock(y), before);
        due(y.execute(), -1000);
        due(y.count(1), 0);
        due(y.count(0), 8);
        due(Checks.run(y, "1x2", 0, 1), REFUSED);
        each(what -> y.reason(what), 2, NOTHING);
        due(Checks.execute(y, "all;arrange 2"), REFUSED);
        each(what -> y.reason(what), BAD, 1);
        same(Look.stock(y), before);
        same(Look.past(y), Look.past(typing()));
    }

    private void firstListed(PaperCutter x) {
        due(x.order(0, 12), NONE);
        due(x.roll(0, 6), NONE);
        due(x.best(0, 4), NONE);
        due(x.made(0, 9), NONE);
        due(x.split(0, 0), NONE);
        due(x.run(0, 0), NONE);
        PaperCutter full = withRuns(16);
        due(full.run(0, 0), BAD);
        due(full.run(0, 1), -1000);
        due(full.split(0, 1), BAD);
        full.keep(15);
        due(full.split(15, 1), REFUSED);
        due(full.cut(9), NONE);
        due(full.arrange(2), BAD);
        due(withOrders(8).addOrder(0, 9, 1, 0, 0, 0), BAD);
        due(withRolls(12).addRoll(0, 9, 1), BAD);
    }
}
