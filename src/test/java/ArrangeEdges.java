import java.util.Arrays;

/** The edges of promises 24 and 25: the order of the runs. */
final class ArrangeEdges extends Edges {
    ArrangeEdges(Checks checks, Sentences sentences) {
        super(checks, sentences);
    }

    @Override
    void all() {
        test(24, "`way`: the way, 0 or 1", this::ways);
        test(24, "Arranges the runs.", this::oneRun);
        test(24, "this is possible with at most 7 runs.", this::seven);
        test(24, "Returns the sum of all setups then; BAD if there is no such way; REFUSED if the way is 1 and there"
            + " are more than 7 runs.", this::firstError);
        test(24, "Without runs, arranging is a change and the sums of setups are 0.", this::noRuns);
        test(24, "the first run becomes the one with the fewest positions, of several the one with the lowest number",
            this::firstOfWay0);
        test(24, "each next one is that whose setup behind the one before it is least, of several the one with the"
            + " lowest number.", this::nextOfWay0);
        test(24, "In the way 1, the sum of all setups becomes as small as possible", this::leastSum);
        test(24, "of several orders, the one that is lexicographically first as a row of the present numbers is taken",
            this::firstRow);
        test(24, "Runs get new numbers by arranging, nothing else changes.", this::nothingElse);
        test(25, "Returns the sum; REFUSED if there are more than 7 runs.", this::leastOfSeven);
        test(25, "Returns the least sum of all setups by a second way: for each set of runs and each last one of it,"
            + " from smaller sets to greater ones.", this::sameAsWay1);
    }

    private void lengths(PaperCutter x, int... dues) {
        due("runs", x.account(7), dues.length);
        each(run -> x.made(run, 1), dues);
    }

    /** Orders of 50, 60, 70 and 80 for a roll of 200, and one of another grade. */
    private static PaperCutter mill(String... patterns) {
        PaperCutter x = new PaperCutter();
        x.addRoll(0, 200, 200);
        for (int width = 50; width <= 80; width += 10) {
            order(x, 0, width, 99);
        }
        for (int i = 0; i < patterns.length; i++) {
            Checks.run(x, patterns[i], 0, i + 1);
        }
        return x;
    }

    private void ways(PaperCutter x) {
        due(x.arrange(0), 0);
        due(x.arrange(1), 0);
        due(x.arrange(2), BAD);
        due(x.arrange(-1), BAD);
        far(BAD, way -> x.arrange(way));
        due(x.count(0), 2);
        refused(BAD, Edges::typing, y -> y.arrange(2));
        refused(BAD, Edges::typing, y -> y.arrange(-1));
    }

    private void oneRun(PaperCutter x) {
        PaperCutter y = mill("2x0");
        due(y.arrange(0), 3);
        due(y.arrange(1), 3);
        due(y.leastSetups(), 3);
        lengths(y, 1);
    }

    private void seven(PaperCutter x) {
        PaperCutter y = withRuns(7);
        due(y.arrange(1), 2);
        PaperCutter z = withRuns(8);
        due(z.arrange(1), REFUSED);
        due(z.arrange(0), 2);
        z.remove(0);
        due(z.arrange(1), 2);
        lengths(z, 2, 3, 4, 5, 6, 7, 8);
        due(withRuns(16).arrange(0), 2);
        due(withRuns(16).arrange(1), REFUSED);
        refused(REFUSED, () -> withRuns(8), w -> w.arrange(1));
    }

    private void firstError(PaperCutter x) {
        due(withRuns(8).arrange(2), BAD);
        due(withRuns(16).arrange(-1), BAD);
        refused(BAD, () -> withRuns(8), w -> w.arrange(2));
        due(mill("3x0", "1x1", "1x0").arrange(0), 2 + 1 + 2);
        due(mill("3x0", "1x1", "1x0").arrange(1), 2 + 1 + 2);
    }

    private void noRuns(PaperCutter x) {
        due(x.arrange(0), 0);
        due(x.count(0), 1);
        due(x.arrange(1), 0);
        due(x.count(0), 2);
        due(x.leastSetups(), 0);
        due(x.account(4), 0);
        due(x.ifAll(3), 0);
        due(x.undo(), 1);
        PaperCutter y = withRuns(1);
        y.remove(0);
        due(y.arrange(1), 0);
        due(y.arrange(0), 0);
        due(y.leastSetups(), 0);
        due(y.account(4), 0);
    }

    private void firstOfWay0(PaperCutter x) {
        PaperCutter y = mill("3x0", "2x0", "1x1", "1x2");
        y.arrange(0);
        due(y.made(0, 1), 3);
        PaperCutter z = mill("1x3", "1x2", "1x1");
        due(z.arrange(0), 2 + 1 + 1);
        lengths(z, 1, 2, 3);
        PaperCutter w = mill("3x0", "2x0");
        w.set(1, 0);
        w.addRoll(3, 50, 9);
        w.addOrder(3, 50, 9, 0, 0, 0);
        Checks.run(w, "1x4", 1, 7);
        due(w.arrange(0), 0 + 8 + 1);
        lengths(w, 7, 2, 1);
    }

    private void nextOfWay0(PaperCutter x) {
        PaperCutter y = mill("1x0", "1x1", "1x2", "2x0", "1x0", "1x1");
        due(y.arrange(0), 2 + 0 + 1 + 0 + 1 + 2);
        lengths(y, 1, 5, 2, 6, 3, 4);
        PaperCutter z = mill("1x0", "1x1+1x0", "2x0", "1x0+1x2");
        due(z.arrange(0), 2 + 1 + 1 + 1);
        lengths(z, 1, 2, 3, 4);
        PaperCutter w = mill("1x0", "3x0");
        w.addRoll(1, 200, 9);
        w.addOrder(1, 50, 9, 0, 0, 0);
        Checks.run(w, "1x4", 1, 7);
        due(w.arrange(0), 2 + 2 + 5);
        lengths(w, 1, 2, 7);
    }

    private void leastSum(PaperCutter x) {
        x.set(0, 7);
        x.addRoll(0, 200, 99);
        x.addRoll(1, 200, 99);
        order(x, 0, 80, 99);
        order(x, 0, 10, 99);
        order(x, 1, 80, 99);
        Checks.run(x, "1x0", 0, 1);
        Checks.run(x, "6x1", 0, 2);
        Checks.run(x, "1x2", 1, 3);
        due(x.account(4), 2 + 6 + 6);
        due(x.arrange(0), 2 + 5 + 11);
        lengths(x, 1, 3, 2);
        x.undo();
        due(x.arrange(1), 7 + 1 + 5);
        lengths(x, 2, 1, 3);
        due(x.leastSetups(), 13);
    }

    private void firstRow(PaperCutter x) {
        PaperCutter y = mill("1x3", "1x2", "1x1", "1x0", "1x3", "1x2", "1x1");
        due(y.arrange(1), 2 + 0 + 1 + 0 + 1 + 0 + 1);
        lengths(y, 1, 5, 2, 6, 3, 7, 4);
        due(y.arrange(1), 5);
        lengths(y, 1, 5, 2, 6, 3, 7, 4);
        PaperCutter z = mill("1x0", "1x1", "1x2");
        z.swap(0, 2);
        due(z.arrange(1), 4);
        lengths(z, 3, 2, 1);
        due(withRuns(7).arrange(1), 2);
        PaperCutter w = withRuns(7);
        w.arrange(1);
        lengths(w, 1, 2, 3, 4, 5, 6, 7);
    }

    private void nothingElse(PaperCutter x) {
        for (int way = 0; way < 2; way++) {
            PaperCutter y = mill("3x0", "1x1", "1x0", "2x1");
            y.keep(0);
            y.keep(2);
            String numbers = ofRolls(y);
            y.arrange(way);
            same(ofRolls(y), numbers);
            int[] keptByLength = {0, 1, NOTHING, 2, NOTHING};
            for (int run = 0; run < 4; run++) {
                due("kept", y.made(run, 7), keptByLength[y.made(run, 1)]);
            }
            due(y.made(y.roll(1, 5), 1), 1);
            due(y.made(y.roll(2, 5), 1), 3);
            y.undo();
            lengths(y, 1, 2, 3, 4);
        }
    }

    private static String ofRolls(PaperCutter x) {
        StringBuilder s = new StringBuilder();
        for (int what = 0; what < 10; what++) {
            s.append(what == 4 ? 0 : x.account(what)).append(' ');
        }
        for (int o = 0; o < x.account(9); o++) {
            s.append(x.order(o, 8)).append(' ').append(x.order(o, 11)).append(' ');
        }
        for (int r = 0; r < x.account(8); r++) {
            s.append(x.roll(r, 1)).append(' ').append(x.roll(r, 3)).append(' ').append(x.roll(r, 4)).append(' ');
        }
        return s.toString();
    }

    private void leastOfSeven(PaperCutter x) {
        due(x.leastSetups(), 0);
        due(withRuns(7).leastSetups(), 2);
        due(withRuns(8).leastSetups(), REFUSED);
        due(withRuns(16).leastSetups(), REFUSED);
        refused(REFUSED, () -> withRuns(8), w -> w.leastSetups());
    }

    private void sameAsWay1(PaperCutter x) {
        String[] patterns = {"1x3", "3x0", "1x1+1x2", "2x1", "1x0", "1x2+1x0", "2x2"};
        int[] dues = {2, 5, 7, 8, 8, 8, 10};
        for (int runs = 1; runs <= 7; runs++) {
            PaperCutter y = mill(Arrays.copyOf(patterns, runs));
            String before = Look.stock(y);
            int least = y.leastSetups();
            same(Look.stock(y), before);
            due("arrange with " + runs, y.arrange(1), least);
            due("least with " + runs, least, dues[runs - 1]);
        }
    }
}
