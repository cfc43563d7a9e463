/** The edges of promises 16, 20 to 23 and 26: runs that are removed, swapped, split and written, and kept remnants. */
final class ChangeEdges extends Edges {
    private static final int MIN = Integer.MIN_VALUE;
    private static final int MAX = Integer.MAX_VALUE;

    ChangeEdges(Checks checks, Sentences sentences) {
        super(checks, sentences);
    }

    @Override
    void all() {
        removals();
        swaps();
        splits();
        writing();
        keeping();
    }

    /** The lengths of the runs tell which is which. */
    private void lengths(PaperCutter x, int... dues) {
        due("runs", x.account(7), dues.length);
        each(run -> x.made(run, 1), dues);
    }

    // ---- promise 16

    private void removals() {
        test(16, "Removes a run; the numbers of the later ones decrease by 1.", this::laterOnesDecrease);
        test(16, "Returns the number of runs that remain", this::remain);
        test(16, "REFUSED if its remnant was kept.", this::keptStays);
        test(16, "Returns the number of runs that remain; NONE if there is no such run; REFUSED if its remnant was"
            + " kept.", this::noRunToRemove);
    }

    private void laterOnesDecrease(PaperCutter x) {
        PaperCutter y = withRuns(5);
        y.remove(2);
        lengths(y, 1, 2, 4, 5);
        y.remove(0);
        lengths(y, 2, 4, 5);
        y.remove(2);
        lengths(y, 2, 4);
        due(y.order(0, 8), 6);
        due(y.roll(0, 3), 194);
        due(y.roll(0, 4), 2);
        due(y.undo(), 7);
        lengths(y, 2, 4, 5);
    }

    private void remain(PaperCutter x) {
        PaperCutter y = withRuns(16);
        for (int runs = 15; runs >= 0; runs--) {
            due(y.remove(runs / 2), runs);
        }
        due(y.remove(0), NONE);
        due(y.order(0, 8), 0);
        due(y.roll(0, 3), 200);
    }

    private void keptStays(PaperCutter x) {
        PaperCutter y = withRuns(16);
        y.keep(15);
        y.keep(0);
        due(y.remove(15), REFUSED);
        due(y.remove(0), REFUSED);
        due(y.remove(1), 15);
        due(y.remove(14), REFUSED);
        due(y.remove(0), REFUSED);
        refused(REFUSED, Edges::typing, z -> z.remove(1));
        y.undo();
        y.undo();
        due(y.remove(0), 15);
        due(y.remove(14), REFUSED);
        PaperCutter onRemnant = busy();
        due(Checks.run(onRemnant, "1x0", 2, 1), 3);
        due(onRemnant.remove(3), 3);
    }

    private void noRunToRemove(PaperCutter x) {
        due(x.remove(0), NONE);
        PaperCutter y = withRuns(16);
        due(y.remove(16), NONE);
        due(y.remove(-1), NONE);
        far(NONE, run -> y.remove(run));
        due(y.account(7), 16);
        refused(NONE, Edges::typing, z -> z.remove(3));
        refused(NONE, Edges::typing, z -> z.remove(-1));
    }

    // ---- promise 20

    private void swaps() {
        test(20, "Exchanges the numbers of two runs.", this::exchanges);
        test(20, "`other`: a run, possibly the same", this::same);
        test(20, "Returns the sum of all setups then; NONE if there is no such run.", this::noRunToSwap);
    }

    private void exchanges(PaperCutter x) {
        PaperCutter y = withRuns(5);
        y.keep(0);
        y.swap(0, 4);
        lengths(y, 5, 2, 3, 4, 1);
        due(y.made(4, 7), 1);
        due(y.roll(1, 5), 4);
        y.swap(3, 2);
        lengths(y, 5, 2, 4, 3, 1);
        x.addRoll(0, 200, 9);
        order(x, 0, 50, 99);
        Checks.run(x, "1x0", 0, 1);
        Checks.run(x, "3x0", 0, 2);
        due(x.swap(0, 1), 4);
        due(x.swap(1, 0), 2 + 2);
        Checks.run(x, "2x0", 0, 3);
        due(x.account(4), 2 + 2);
        due(x.swap(1, 2), 2 + 1 + 1);
        order(x, 0, 60, 9);
        Checks.run(x, "1x1", 0, 1);
        due(x.swap(3, 0), 2 + 2 + 1 + 0);
    }

    private void same(PaperCutter x) {
        PaperCutter y = withRuns(2);
        due(y.swap(1, 1), 2);
        due(y.swap(0, 0), 2);
        due(y.count(0), 6);
        lengths(y, 1, 2);
    }

    private void noRunToSwap(PaperCutter x) {
        due(x.swap(0, 0), NONE);
        PaperCutter y = withRuns(16);
        due(y.swap(15, 16), NONE);
        due(y.swap(16, 15), NONE);
        due(y.swap(-1, 0), NONE);
        due(y.swap(0, -1), NONE);
        far(NONE, run -> y.swap(run, 0));
        far(NONE, run -> y.swap(0, run));
        far(NONE, run -> y.swap(run, run));
        due(y.swap(15, 0), 2);
        due(y.made(0, 1), 16);
        due(y.made(15, 1), 1);
        refused(NONE, Edges::typing, z -> z.swap(0, 3));
        refused(NONE, Edges::typing, z -> z.swap(-1, -1));
    }

    // ---- promise 21

    private void splits() {
        test(21, "Splits a run into two with the same pattern: the first one keeps its number and gets the given"
            + " length, the second one gets the rest of the length and the next number, and the numbers of the later"
            + " ones increase by 1.", this::splitsInTwo);
        test(21, "BAD if the length is less than 1 or not less than that of the run", this::splitLengths);
        test(21, "REFUSED if its remnant was kept", this::splitKept);
        test(21, "FULL if there are 16 runs.", this::splitFull);
        test(21, "Returns the number of the second one; NONE if there is no such run; BAD if the length is less than"
            + " 1 or not less than that of the run; REFUSED if its remnant was kept; FULL if there are 16 runs.",
            this::splitFirstError);
    }

    private void splitsInTwo(PaperCutter x) {
        x.addRoll(0, 200, 90);
        order(x, 0, 50, 99);
        order(x, 0, 20, 99);
        Checks.run(x, "1x1", 0, 11);
        Checks.run(x, "2x0+1x1", 0, 10);
        Checks.run(x, "1x0", 0, 12);
        x.keep(2);
        x.set(1, 0);
        due(x.split(1, 3), 2);
        lengths(x, 11, 3, 7, 12);
        each(what -> x.made(1, what), 0, 3, 3, 80, 4, 3, 240, NOTHING, 74, BAD, 2, 1);
        each(what -> x.made(2, what), 0, 7, 3, 80, 4, 0, 560, NOTHING, 74, BAD, 2, 1);
        same(Checks.positions(x, 2), Checks.positions(x, 1));
        due(x.roll(1, 5), 3);
        due(x.roll(0, 3), 90 - 33);
        due(x.split(0, 10), 1);
        lengths(x, 10, 1, 3, 7, 12);
        due(x.split(3, 1), 4);
        lengths(x, 10, 1, 3, 1, 6, 12);
        due(x.roll(1, 5), 5);
    }

    private void splitLengths(PaperCutter x) {
        PaperCutter y = withRuns(3);
        due(y.split(2, 0), BAD);
        due(y.split(2, -1), BAD);
        due(y.split(2, 3), BAD);
        due(y.split(2, 4), BAD);
        due(y.split(0, 1), BAD);
        far(BAD, length -> y.split(2, length));
        lengths(y, 1, 2, 3);
        due(y.split(2, 2), 3);
        lengths(y, 1, 2, 2, 1);
        due(y.split(1, 1), 2);
        lengths(y, 1, 1, 1, 2, 1);
        for (int length : new int[] {0, 5, MIN, MAX}) {
            refused(BAD, Edges::typing, z -> z.split(0, length));
        }
    }

    private void splitKept(PaperCutter x) {
        PaperCutter y = withRuns(3);
        y.keep(2);
        due(y.split(2, 1), REFUSED);
        due(y.split(2, 2), REFUSED);
        due(y.split(1, 1), 2);
        refused(REFUSED, Edges::typing, z -> z.split(1, 1));
    }

    private void splitFull(PaperCutter x) {
        PaperCutter y = withRuns(15);
        due(y.split(14, 14), 15);
        due(y.split(13, 1), FULL);
        lengths(y, 1, 2, 3, 4, 5, 6, 7, 8, 9, 10, 11, 12, 13, 14, 14, 1);
        y.undo();
        due(y.split(1, 1), 2);
        lengths(y, 1, 1, 1, 3, 4, 5, 6, 7, 8, 9, 10, 11, 12, 13, 14, 15);
        refused(FULL, () -> withRuns(16), z -> z.split(15, 1));
    }

    private void splitFirstError(PaperCutter x) {
        due(x.split(0, 1), NONE);
        PaperCutter y = withRuns(16);
        y.keep(15);
        due(y.split(16, 0), NONE);
        due(y.split(-1, 1), NONE);
        far(NONE, run -> y.split(run, 1));
        due(y.split(15, 16), BAD);
        due(y.split(15, 15), REFUSED);
        due(y.split(14, 15), BAD);
        due(y.split(14, 14), FULL);
        due(y.split(0, 1), BAD);
        refused(NONE, Edges::typing, z -> z.split(3, 1));
    }

    // ---- promises 22 and 23

    private void writing() {
        test(22, "Writes the pattern of a run, in the form in which patterns are read, with the orders that have"
            + " strips in ascending order.", this::writes);
        test(22, "The written text is empty at first.", x -> due(x.written(0), NONE));
        test(22, "Returns the length of the written text; NONE if there is no such run.", this::noRunToWrite);
        test(23, "`k`: its index, from 0", this::eachSign);
        test(23, "Returns the code of the character; NONE if there is no such index.", this::noIndex);
        test(23, "Returns a character of the written text.", this::lastWritten);
    }

    private static PaperCutter eightStrips() {
        PaperCutter x = new PaperCutter();
        x.set(0, 7);
        x.set(1, 0);
        x.addRoll(0, 80, 5);
        for (int o = 0; o < 8; o++) {
            order(x, 0, 10, 20);
        }
        Checks.run(x, "1x7+1x6+1x5+1x4+1x3+1x2+1x1+1x0", 0, 1);
        Checks.run(x, "8x7", 0, 1);
        Checks.run(x, "1x3+2x1+1x3", 0, 1);
        return x;
    }

    private void writes(PaperCutter x) {
        PaperCutter y = eightStrips();
        due(y.write(0), 31);
        same(Checks.written(y), "1x0+1x1+1x2+1x3+1x4+1x5+1x6+1x7");
        due(y.write(1), 3);
        same(Checks.written(y), "8x7");
        due(y.write(2), 7);
        same(Checks.written(y), "2x1+2x3");
        due(Checks.run(y, Checks.written(y), 0, 1), 3);
        due(y.made(3, 11), 2);
        due(y.made(3, 13), 2);
        due(y.count(0), 8);
    }

    private void noRunToWrite(PaperCutter x) {
        due(x.write(0), NONE);
        PaperCutter y = withRuns(16);
        due(y.write(15), 3);
        due(y.write(16), NONE);
        due(y.write(-1), NONE);
        far(NONE, run -> y.write(run));
        same(Checks.written(y), "1x0");
        refused(NONE, Edges::typing, z -> z.write(3));
        refused(NONE, Edges::typing, z -> z.write(-1));
    }

    private void eachSign(PaperCutter x) {
        PaperCutter y = eightStrips();
        y.write(2);
        each(k -> y.written(k), '2', 'x', '1', '+', '2', 'x', '3', NONE, NONE);
    }

    private void noIndex(PaperCutter x) {
        PaperCutter y = eightStrips();
        far(NONE, k -> y.written(k));
        y.write(0);
        due(y.written(30), '7');
        due(y.written(31), NONE);
        due(y.written(-1), NONE);
        far(NONE, k -> y.written(k));
        y.write(1);
        due(y.written(2), '7');
        due(y.written(3), NONE);
        refused(NONE, Edges::typing, z -> z.written(99));
    }

    private void lastWritten(PaperCutter x) {
        PaperCutter y = eightStrips();
        y.write(1);
        y.remove(1);
        same(Checks.written(y), "8x7");
        due(y.write(1), 7);
        same(Checks.written(y), "2x1+2x3");
    }

    // ---- promise 26

    private void keeping() {
        test(26, "To keep it means: it becomes a roll, the last one, with the grade of the roll of the run.",
            this::becomesRoll);
        test(26, "Keeps the remnant of a run.", this::keepsOnce);
        test(26, "or is narrower than the least width of a remnant", this::narrower);
        test(26, "The width that keep asks for is that of now.", this::widthOfNow);
        test(26, "FULL if there are 12 rolls.", this::keepFull);
        test(26, "Returns the number of the new roll; NONE if there is no such run; REFUSED if it was kept, or is"
            + " narrower than the least width of a remnant; FULL if there are 12 rolls.", this::keepFirstError);
    }

    private void becomesRoll(PaperCutter x) {
        for (int grade = 0; grade < 4; grade++) {
            PaperCutter y = new PaperCutter();
            y.addRoll(grade, 200, 999);
            y.addOrder(3, 50, 999, 0, 0, 1);
            y.addRoll(3 - grade, 70, 5);
            Checks.run(y, "1x0", 0, 999);
            due(y.keep(0), 2);
            each(what -> y.roll(2, what), grade, 144, 999, 999, 0, 0);
            due(y.made(0, 7), 2);
            due(y.account(8), 3);
            due(Checks.run(y, "1x0", 2, 1), REFUSED);
            due(y.reason(0), 7);
        }
    }

    private void keepsOnce(PaperCutter x) {
        PaperCutter y = withRuns(2);
        due(y.keep(1), 1);
        due(y.keep(1), REFUSED);
        due(y.keep(0), 2);
        due(y.keep(0), REFUSED);
        y.undo();
        due(y.made(0, 7), NOTHING);
        due(y.keep(0), 2);
        refused(REFUSED, Edges::typing, z -> z.keep(1));
    }

    private static PaperCutter remnantOf(int width) {
        PaperCutter x = new PaperCutter();
        x.addRoll(0, 106 + width, 5);
        order(x, 0, 100, 99);
        Checks.run(x, "1x0", 0, 5);
        return x;
    }

    private void narrower(PaperCutter x) {
        due(remnantOf(20).keep(0), 1);
        due(remnantOf(19).keep(0), REFUSED);
        refused(REFUSED, () -> remnantOf(19), y -> y.keep(0));
        due(remnantOf(0).keep(0), REFUSED);
        for (int least : new int[] {10, 99}) {
            PaperCutter y = remnantOf(least);
            y.set(2, least);
            due(y.keep(0), 1);
            due(y.roll(1, 1), least);
            PaperCutter z = remnantOf(least - 1);
            z.set(2, least);
            due(z.keep(0), REFUSED);
        }
    }

    private void widthOfNow(PaperCutter x) {
        PaperCutter y = remnantOf(30);
        y.set(2, 31);
        due(y.keep(0), REFUSED);
        y.set(2, 30);
        due(y.keep(0), 1);
        y.set(2, 99);
        due(y.roll(1, 1), 30);
        due(y.made(0, 7), 1);
    }

    private static PaperCutter rollsAndRun(int rolls) {
        PaperCutter x = withRuns(2);
        for (int i = 1; i < rolls; i++) {
            x.addRoll(0, 50, 1);
        }
        return x;
    }

    private void keepFull(PaperCutter x) {
        PaperCutter y = rollsAndRun(11);
        due(y.keep(1), 11);
        due(y.keep(0), FULL);
        due(y.account(8), 12);
        due(y.made(0, 7), NOTHING);
        refused(FULL, () -> rollsAndRun(12), z -> z.keep(0));
        y.undo();
        due(y.keep(0), 11);
    }

    private void keepFirstError(PaperCutter x) {
        due(x.keep(0), NONE);
        PaperCutter y = rollsAndRun(11);
        y.keep(0);
        due(y.keep(0), REFUSED);
        due(y.keep(1), FULL);
        y.set(2, 99);
        order(y, 0, 80, 9);
        Checks.run(y, "1x0+1x1", 0, 1);
        due(y.keep(2), REFUSED);
        due(y.keep(3), NONE);
        due(y.keep(-1), NONE);
        far(NONE, run -> y.keep(run));
        due(withRuns(16).keep(15), 1);
        due(withRuns(16).keep(16), NONE);
        refused(NONE, Edges::typing, z -> z.keep(3));
        refused(NONE, Edges::typing, z -> z.keep(-1));
    }
}
