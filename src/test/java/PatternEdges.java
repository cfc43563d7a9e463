/** The edges of promises 10 to 12: the best pattern, the second way to its rest, and the number of patterns. */
final class PatternEdges extends Edges {
    PatternEdges(Checks checks, Sentences sentences) {
        super(checks, sentences);
    }

    @Override
    void all() {
        possible();
        ranked();
        numbers();
        secondWay();
        counted();
    }

    /** The best pattern by both ways: its rest, and its strips. */
    private void best(PaperCutter x, int roll, int rest, int... row) {
        due("rest", x.best(roll, 0), rest);
        due("rest again", x.again(roll), rest);
        int strips = 0;
        for (int o = 0; o < row.length; o++) {
            due("strips for " + o, x.best(roll, 10 + o), row[o]);
            strips += row[o];
        }
        due("strips", x.best(roll, 1), strips);
        due("knives", x.best(roll, 2), rest == 0 ? strips - 1 : strips + 1);
    }

    private void noBest(PaperCutter x, int roll) {
        for (int what = 0; what < 4; what++) {
            due("best", x.best(roll, what), NOTHING);
        }
        due("again", x.again(roll), NOTHING);
        due("cut", x.cut(roll), NOTHING);
    }

    private static PaperCutter cutter(int knives, int edge) {
        PaperCutter x = new PaperCutter();
        x.set(0, knives);
        x.set(1, edge);
        return x;
    }

    // ---- what a best pattern has to hold

    private void possible() {
        test(10, "at least one in all.", this::oneInAll);
        test(10, "Its rest is the width of the roll less the widths of all its strips.", this::rests);
        test(10, "A pattern with s strips needs s + 1 knives, but only s - 1 if its rest is 0.", this::knives);
        test(10, "A roll can be used for an order of the same grade, and for one of a worse grade, that is, with a"
            + " greater number, that accepts better grades.", this::grades);
        test(10, "of which 0 is the best", this::bestGrade);
        test(10, "It is possible if the roll can be used for each order that has strips, its rest is at least twice"
            + " the edge, and it does not need more knives than there are.", this::twiceTheEdge);
        test(10, "The best pattern for a roll consists of strips for wanting orders", this::wantingOrders);
        test(10, "the strips of no order are more than its room", this::room);
        test(10, "at least 1 is left of the roll.", this::oneLeft);
    }

    private void oneInAll(PaperCutter x) {
        x.addRoll(0, 50, 9);
        noBest(x, 0);
        due(x.patterns(0), 0);
        order(x, 0, 45, 9);
        noBest(x, 0);
        due(x.patterns(0), 0);
        order(x, 0, 44, 9);
        best(x, 0, 6, 0, 1);
        due(x.patterns(0), 1);
    }

    private void rests(PaperCutter x) {
        x.addRoll(0, 300, 9);
        order(x, 0, 144, 9);
        best(x, 0, 12, 2);
        order(x, 0, 150, 9);
        best(x, 0, 6, 1, 1);
        PaperCutter y = cutter(7, 0);
        y.addRoll(0, 300, 9);
        order(y, 0, 150, 9);
        best(y, 0, 0, 2);
    }

    private void knives(PaperCutter x) {
        for (int knives = 2; knives <= 7; knives++) {
            PaperCutter y = cutter(knives, 0);
            order(y, 0, 10, 99);
            y.addRoll(0, 10 * knives + 50, 9);
            best(y, 0, 60, knives - 1);
            due("patterns", y.patterns(0), knives - 1);
        }
        for (int knives = 4; knives <= 7; knives++) {
            PaperCutter y = cutter(knives, 0);
            order(y, 0, 10, 99);
            y.addRoll(0, 10 * (knives + 1), 9);
            best(y, 0, 0, knives + 1);
            due("patterns", y.patterns(0), knives);
            y.addRoll(0, 10 * (knives + 2), 9);
            best(y, 1, 30, knives - 1);
            due("patterns", y.patterns(1), knives - 1);
        }
        PaperCutter z = cutter(2, 0);
        order(z, 0, 60, 99);
        z.addRoll(0, 60, 9);
        z.addRoll(0, 180, 9);
        z.addRoll(0, 240, 9);
        best(z, 0, 0, 1);
        best(z, 1, 0, 3);
        best(z, 2, 180, 1);
    }

    private void grades(PaperCutter x) {
        for (int roll = 0; roll < 4; roll++) {
            for (int of = 0; of < 4; of++) {
                PaperCutter y = new PaperCutter();
                y.addRoll(roll, 100, 9);
                y.addOrder(of, 40, 9, 0, 0, 0);
                due("roll of " + roll + ", order of " + of, y.best(0, 10), roll == of ? 2 : NOTHING);
                due("roll of " + roll + ", order of " + of, y.patterns(0), roll == of ? 2 : 0);
                y.addOrder(of, 41, 9, 0, 0, 1);
                due("roll of " + roll + ", order of " + of, y.best(0, 11), roll <= of ? 2 : NOTHING);
                due("roll of " + roll + ", order of " + of, y.again(0), roll <= of ? 18 : NOTHING);
            }
        }
    }

    private void bestGrade(PaperCutter x) {
        x.addRoll(0, 100, 9);
        x.addRoll(3, 100, 9);
        x.addOrder(1, 40, 9, 0, 0, 1);
        best(x, 0, 20, 2);
        noBest(x, 1);
    }

    private void twiceTheEdge(PaperCutter x) {
        for (int edge = 0; edge <= 20; edge++) {
            PaperCutter y = cutter(6, edge);
            order(y, 0, 50, 99);
            y.addRoll(0, 100 + 2 * edge, 9);
            best(y, 0, 2 * edge, 2);
            due("patterns", y.patterns(0), 2);
            y.addRoll(0, 99 + 2 * edge, 9);
            best(y, 1, 49 + 2 * edge, 1);
            due("patterns", y.patterns(1), 1);
        }
        // The narrowest remnant is narrower than twice the widest edge.
        x.set(2, 10);
        x.addRoll(0, 76, 9);
        order(x, 0, 60, 9);
        Checks.run(x, "1x0", 0, 4);
        due(x.keep(0), 1);
        order(x, 0, 10, 9);
        x.set(1, 20);
        noBest(x, 1);
        due(x.patterns(1), 0);
        due(Checks.run(x, "1x1", 1, 1), REFUSED);
        due(x.reason(0), 4);
        x.set(1, 0);
        best(x, 1, 0, 0, 1);
        due(x.patterns(1), 1);
    }

    private void wantingOrders(PaperCutter x) {
        x.addRoll(0, 106, 99);
        x.addOrder(0, 50, 10, 50, 0, 0);
        Checks.run(x, "1x0", 0, 9);
        best(x, 0, 6, 2);
        Checks.run(x, "1x0", 0, 1);
        due(x.order(0, 9), 5);
        noBest(x, 0);
        due(x.patterns(0), 0);
        x.addOrder(0, 60, 10, 50, 0, 0);
        best(x, 0, 46, 0, 1);
        x.remove(1);
        best(x, 0, 6, 2, 0);
        x.undo();
        x.undo();
        noBest(x, 0);
        due(x.patterns(0), 0);
    }

    private void room(PaperCutter x) {
        x.addRoll(0, 300, 99);
        order(x, 0, 10, 4);
        best(x, 0, 260, 4);
        due(x.patterns(0), 4);
        Checks.run(x, "1x0", 0, 1);
        best(x, 0, 270, 3);
        Checks.run(x, "2x0", 0, 1);
        best(x, 0, 290, 1);
        due(x.patterns(0), 1);
        Checks.run(x, "1x0", 0, 1);
        noBest(x, 0);
        x.addOrder(0, 10, 2, 50, 0, 0);
        best(x, 0, 270, 0, 3);
    }

    private void oneLeft(PaperCutter x) {
        x.addRoll(0, 106, 9);
        order(x, 0, 50, 99);
        Checks.run(x, "1x0", 0, 8);
        best(x, 0, 6, 2);
        Checks.run(x, "1x0", 0, 1);
        noBest(x, 0);
        x.addRoll(0, 106, 1);
        best(x, 1, 6, 2);
    }

    // ---- which of several is the best

    private void ranked() {
        test(10, "Of all such patterns, it is the one with the least rest", this::leastRest);
        test(10, "of several the one with the fewest strips", this::fewestStrips);
        test(10, "and of several of these the one whose row of numbers of strips, in ascending order of the orders, is"
            + " lexicographically greatest.", this::greatestRow);
    }

    private void leastRest(PaperCutter x) {
        x.addRoll(0, 106, 9);
        order(x, 0, 99, 9);
        order(x, 0, 20, 9);
        best(x, 0, 6, 0, 5);
        x.addRoll(0, 105, 9);
        best(x, 1, 6, 1, 0);
        x.addRoll(0, 107, 9);
        best(x, 2, 7, 0, 5);
        PaperCutter y = new PaperCutter();
        y.addRoll(0, 106, 9);
        order(y, 0, 90, 9);
        order(y, 0, 40, 9);
        order(y, 0, 20, 9);
        best(y, 0, 6, 0, 2, 1);
        PaperCutter z = new PaperCutter();
        z.addRoll(0, 106, 9);
        order(z, 0, 60, 9);
        order(z, 0, 10, 1);
        order(z, 0, 98, 1);
        best(z, 0, 8, 0, 0, 1);
    }

    private void fewestStrips(PaperCutter x) {
        x.addRoll(0, 126, 9);
        order(x, 0, 30, 9);
        best(x, 0, 6, 4);
        order(x, 0, 40, 9);
        best(x, 0, 6, 0, 3);
        order(x, 0, 60, 9);
        best(x, 0, 6, 0, 0, 2);
        order(x, 0, 120, 9);
        best(x, 0, 6, 0, 0, 0, 1);
    }

    private void greatestRow(PaperCutter x) {
        x.addRoll(0, 126, 9);
        order(x, 0, 40, 9);
        order(x, 0, 50, 9);
        order(x, 0, 60, 9);
        order(x, 0, 80, 9);
        order(x, 0, 70, 9);
        best(x, 0, 6, 1, 0, 0, 1, 0);
        PaperCutter y = new PaperCutter();
        y.addRoll(0, 126, 9);
        order(y, 0, 60, 9);
        order(y, 0, 60, 1);
        order(y, 0, 60, 9);
        best(y, 0, 6, 2, 0, 0);
        PaperCutter z = new PaperCutter();
        z.addRoll(0, 126, 9);
        order(z, 0, 60, 1);
        order(z, 0, 60, 1);
        order(z, 0, 60, 9);
        best(z, 0, 6, 1, 1, 0);
        Checks.run(z, "1x1", 0, 1);
        best(z, 0, 6, 1, 0, 1);
        Checks.run(z, "1x0", 0, 1);
        best(z, 0, 6, 0, 0, 2);
    }

    // ---- the numbers of best

    private void numbers() {
        test(10, "`what`: 0 its rest; 1 the number of its strips; 2 the knives that it needs; 3 the length with which"
            + " it would be cut; 10 + o the number of strips for order o", this::eachNumber);
        test(10, "with the greatest length that is not greater than what is left of the roll, and with which no more"
            + " than the room is made for each order.", this::length);
        test(10, "BAD if there is no such what or no such order", this::noWhat);
        test(10, "NONE if there is no such roll; BAD if there is no such what or no such order; NOTHING if there is"
            + " no best pattern.", this::firstError);
        test(10, "Returns a number of the best pattern for a roll.", this::asks);
    }

    private void eachNumber(PaperCutter x) {
        x.set(0, 7);
        x.set(1, 0);
        x.addRoll(0, 80, 9);
        for (int o = 0; o < 8; o++) {
            order(x, 0, 10, 1);
        }
        each(what -> x.best(0, what), 0, 8, 7, 1, BAD, BAD, BAD, BAD, BAD, BAD, 1, 1, 1, 1, 1, 1, 1, 1, BAD, BAD);
        due(x.again(0), 0);
        PaperCutter y = new PaperCutter();
        y.addRoll(0, 106, 9);
        order(y, 0, 50, 9);
        each(what -> y.best(0, what), 6, 2, 3, 4, BAD, BAD, BAD, BAD, BAD, BAD, 2, BAD, BAD, BAD, BAD, BAD, BAD, BAD,
            BAD);
    }

    private void length(PaperCutter x) {
        int[][] roomLeftLength = {{2, 9, 1}, {3, 9, 1}, {4, 9, 2}, {17, 9, 8}, {18, 9, 9}, {19, 9, 9}, {999, 9, 9},
            {999, 1, 1}, {999, 999, 499}, {998, 499, 499}, {998, 498, 498}};
        for (int[] n : roomLeftLength) {
            PaperCutter y = new PaperCutter();
            y.addRoll(0, 106, n[1]);
            order(y, 0, 50, n[0]);
            due("length for " + n[0] + " of " + n[1], y.best(0, 3), n[2]);
            due("cut", y.cut(0), 0);
            due("length for " + n[0] + " of " + n[1], y.made(0, 1), n[2]);
        }
        x.addRoll(0, 206, 30);
        order(x, 0, 70, 8);
        order(x, 0, 60, 5);
        best(x, 0, 6, 2, 1);
        due(x.best(0, 3), 4);
        Checks.run(x, "1x1", 0, 2);
        due(x.best(0, 3), 3);
    }

    private void noWhat(PaperCutter x) {
        x.addRoll(0, 106, 9);
        order(x, 0, 50, 9);
        due(x.best(0, -1), BAD);
        due(x.best(0, 4), BAD);
        due(x.best(0, 9), BAD);
        due(x.best(0, 10), 2);
        due(x.best(0, 11), BAD);
        far(BAD, what -> x.best(0, what));
        PaperCutter y = new PaperCutter();
        y.addRoll(0, 106, 9);
        due(y.best(0, 10), BAD);
        refused(BAD, Edges::typing, z -> z.best(0, 4));
        refused(BAD, Edges::typing, z -> z.best(0, 12));
    }

    private void firstError(PaperCutter x) {
        due(x.best(0, 0), NONE);
        due(x.best(0, 99), NONE);
        PaperCutter y = withRolls(12);
        due(y.best(-1, 4), NONE);
        due(y.best(11, -1), BAD);
        due(y.best(11, 4), BAD);
        due(y.best(11, 10), BAD);
        due(y.best(11, 0), NOTHING);
        due(y.best(12, 0), NONE);
        far(NONE, roll -> y.best(roll, 0));
        order(y, 0, 150, 9);
        due(y.best(11, 10), NOTHING);
        due(y.best(11, 11), BAD);
        refused(NONE, Edges::typing, z -> z.best(3, 0));
        refused(NOTHING, () -> withRolls(12), z -> z.best(0, 0));
    }

    private void asks(PaperCutter x) {
        PaperCutter with = typing();
        for (int roll = 0; roll < 3; roll++) {
            with.best(roll, 0);
            with.best(roll, 10);
        }
        same(Look.stock(with), Look.stock(typing()));
        same(Look.past(with), Look.past(typing()));
    }

    // ---- the second way

    private void secondWay() {
        test(11, "Returns the rest of the best pattern for a roll by a second way: for each sum of widths, the fewest"
            + " strips are found with which it can be reached, order by order.", this::fewestForSums);
        test(11, "Returns the rest; NONE if there is no such roll; NOTHING if there is no best pattern.", this::noRest);
    }

    private void fewestForSums(PaperCutter x) {
        x.set(0, 4);
        x.addRoll(0, 126, 9);
        order(x, 0, 30, 9);
        due(x.again(0), 36);
        order(x, 0, 60, 1);
        due(x.again(0), 6);
        x.set(0, 3);
        due(x.again(0), 36);
        order(x, 0, 60, 1);
        due(x.again(0), 6);
        PaperCutter y = cutter(3, 0);
        y.addRoll(0, 120, 9);
        order(y, 0, 30, 4);
        due(y.again(0), 0);
        Checks.run(y, "2x0", 0, 1);
        due(y.again(0), 60);
        y.addRoll(0, 300, 9);
        order(y, 0, 150, 2);
        due(y.again(1), 0);
    }

    private void noRest(PaperCutter x) {
        due(x.again(0), NONE);
        PaperCutter y = withRolls(12);
        due(y.again(11), NOTHING);
        due(y.again(12), NONE);
        due(y.again(-1), NONE);
        far(NONE, roll -> y.again(roll));
        order(y, 0, 55, 99);
        due(y.again(11), 6);
        due(y.again(10), NOTHING);
        y.cut(11);
        due(y.again(11), NOTHING);
        refused(NONE, Edges::typing, z -> z.again(3));
        refused(NOTHING, () -> withRolls(12), z -> z.again(0));
    }

    // ---- how many there are

    private void counted() {
        test(12, "Returns the number of possible patterns for a roll with strips for wanting orders, the strips of no"
            + " order being more than its room.", this::allPatterns);
        test(12, "Returns the number, whatever is left of the roll", this::whateverIsLeft);
        test(12, "Returns the number, whatever is left of the roll; NONE if there is no such roll.", this::noPatterns);
    }

    private void allPatterns(PaperCutter x) {
        x.addRoll(0, 50, 9);
        due(x.patterns(0), 0);
        order(x, 0, 10, 9);
        due(x.patterns(0), 4);
        order(x, 0, 20, 9);
        due(x.patterns(0), 8);
        order(x, 0, 45, 9);
        due(x.patterns(0), 8);
        order(x, 1, 10, 9);
        due(x.patterns(0), 8);
        order(x, 0, 44, 1);
        due(x.patterns(0), 9);
        Checks.run(x, "1x4", 0, 1);
        due(x.patterns(0), 8);
        Checks.run(x, "1x0", 0, 7);
        due(x.patterns(0), 6);
        Checks.run(x, "1x0", 0, 1);
        due(x.patterns(0), 4);
        PaperCutter y = cutter(7, 0);
        y.addRoll(0, 80, 9);
        for (int o = 0; o < 8; o++) {
            order(y, 0, 10, 999);
        }
        due(y.patterns(0), 3002 + 6435);
    }

    private void whateverIsLeft(PaperCutter x) {
        x.addRoll(0, 106, 2);
        order(x, 0, 50, 9);
        due(x.patterns(0), 2);
        Checks.run(x, "1x0", 0, 1);
        due(x.patterns(0), 2);
        Checks.run(x, "1x0", 0, 1);
        due(x.roll(0, 3), 0);
        due(x.patterns(0), 2);
        due(x.best(0, 0), NOTHING);
    }

    private void noPatterns(PaperCutter x) {
        due(x.patterns(0), NONE);
        PaperCutter y = withRolls(12);
        due(y.patterns(11), 0);
        due(y.patterns(12), NONE);
        due(y.patterns(-1), NONE);
        far(NONE, roll -> y.patterns(roll));
        refused(NONE, Edges::typing, z -> z.patterns(3));
    }
}
