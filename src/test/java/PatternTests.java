/** Promises 10 to 12: the best pattern, the second way to its rest, and the number of patterns. */
final class PatternTests {
    private final Checks c;

    private PatternTests(Checks checks) {
        c = checks;
    }

    static void all(Checks checks) {
        PatternTests t = new PatternTests(checks);
        t.best();
        t.fewestStrips();
        t.greatestRow();
        t.noRest();
        t.knives();
        t.grades();
        t.wantingAndRoom();
        t.length();
        t.nothing();
        t.patterns();
    }

    private void row(PaperCutter x, int roll, int... row) {
        for (int o = 0; o < row.length; o++) {
            c.due("10: strips for " + o, x.best(roll, 10 + o), row[o]);
        }
    }

    private void best() {
        PaperCutter x = new PaperCutter();
        c.due("10: no roll", x.best(0, 0), -1);
        c.due("11: no roll", x.again(0), -1);
        c.due("12: no roll", x.patterns(0), -1);
        x.addRoll(0, 206, 30);
        x.addOrder(0, 70, 50, 10, 0, 0);
        x.addOrder(0, 60, 40, 0, 0, 0);
        // Of 206, 200 can be used: 70 + 2 * 60 = 190 or 2 * 70 + 60 = 200.
        c.due("10: rest", x.best(0, 0), 6);
        c.due("10: strips", x.best(0, 1), 3);
        c.due("10: knives", x.best(0, 2), 4);
        c.due("10: length", x.best(0, 3), 27);
        row(x, 0, 2, 1);
        c.due("11: rest", x.again(0), 6);
        c.due("12: patterns", x.patterns(0), 8);
        c.due("10: no what", x.best(0, 4), -2);
        c.due("10: no what", x.best(0, 9), -2);
        c.due("10: no what", x.best(0, -1), -2);
        c.due("10: no order", x.best(0, 12), -2);
        c.due("10: no what", x.best(0, Integer.MIN_VALUE), -2);
        c.due("10: no roll ahead of no what", x.best(1, 4), -1);
        c.due("10: no roll", x.best(-1, 0), -1);
        c.due("11: no roll", x.again(-1), -1);
        c.due("12: no roll", x.patterns(1), -1);
        c.due("10: asking changes nothing", x.count(0), 3);
    }

    private void fewestStrips() {
        PaperCutter x = new PaperCutter();
        x.addRoll(0, 126, 30);
        x.addOrder(0, 40, 50, 0, 0, 0);
        x.addOrder(0, 60, 50, 0, 0, 0);
        c.due("10: 2 * 60 and not 3 * 40", x.best(0, 1), 2);
        row(x, 0, 0, 2);
    }

    private void greatestRow() {
        PaperCutter x = new PaperCutter();
        x.addRoll(0, 126, 30);
        x.addOrder(0, 50, 50, 0, 0, 0);
        x.addOrder(0, 60, 50, 0, 0, 0);
        x.addOrder(0, 70, 50, 0, 0, 0);
        x.addOrder(0, 60, 50, 0, 0, 0);
        row(x, 0, 1, 0, 1, 0);
        PaperCutter y = new PaperCutter();
        y.addRoll(0, 126, 30);
        y.addOrder(0, 60, 50, 0, 0, 0);
        y.addOrder(0, 50, 50, 0, 0, 0);
        y.addOrder(0, 70, 50, 0, 0, 0);
        row(y, 0, 2, 0, 0);
    }

    private void noRest() {
        PaperCutter x = new PaperCutter();
        x.set(0, 7);
        x.set(1, 0);
        x.addRoll(0, 80, 5);
        x.addOrder(0, 10, 999, 0, 0, 0);
        c.due("10: no rest", x.best(0, 0), 0);
        c.due("10: eight strips", x.best(0, 1), 8);
        c.due("10: seven knives", x.best(0, 2), 7);
        c.due("11: no rest", x.again(0), 0);
        c.due("12: eight, or up to six", x.patterns(0), 7);
        x.addRoll(0, 90, 5);
        c.due("10: nine are too many", x.best(1, 0), 30);
        c.due("11: nine are too many", x.again(1), 30);
        x.set(1, 1);
        c.due("10: the edge is due", x.best(0, 0), 20);
        PaperCutter y = new PaperCutter();
        y.set(1, 0);
        y.addRoll(0, 50, 5);
        y.addOrder(0, 50, 5, 0, 0, 0);
        c.due("10: no knives", y.best(0, 2), 0);
        c.due("12: a whole roll", y.patterns(0), 1);
    }

    private void knives() {
        PaperCutter x = new PaperCutter();
        x.addRoll(0, 106, 5);
        x.addOrder(0, 10, 99, 0, 0, 0);
        for (int knives = 2; knives <= 7; knives++) {
            x.set(0, knives);
            c.due("10: knives", x.best(0, 2), knives);
            c.due("10: strips", x.best(0, 1), knives - 1);
            c.due("11: rest", x.again(0), 106 - 10 * (knives - 1));
            c.due("12: patterns", x.patterns(0), knives - 1);
        }
        x.set(1, 20);
        c.due("10: twice the edge", x.best(0, 0), 46);
        c.due("12: twice the edge", x.patterns(0), 6);
        x.set(0, 2);
        x.addOrder(0, 60, 9, 0, 0, 0);
        x.addOrder(0, 67, 9, 0, 0, 0);
        c.due("10: one strip", x.best(0, 0), 46);
        row(x, 0, 0, 1, 0);
    }

    private void grades() {
        PaperCutter x = new PaperCutter();
        x.addRoll(1, 100, 9);
        x.addOrder(0, 80, 9, 0, 0, 1);
        x.addOrder(2, 90, 9, 0, 0, 0);
        x.addOrder(2, 70, 9, 0, 0, 1);
        x.addOrder(1, 60, 9, 0, 0, 0);
        c.due("10: a worse order that accepts better grades", x.best(0, 0), 30);
        row(x, 0, 0, 0, 1, 0);
        c.due("12: two can be used", x.patterns(0), 2);
    }

    private void wantingAndRoom() {
        PaperCutter x = new PaperCutter();
        x.addRoll(0, 150, 99);
        x.addOrder(0, 40, 10, 50, 0, 0);
        x.addOrder(0, 30, 2, 0, 0, 0);
        c.due("12: patterns", x.patterns(0), 9);
        row(x, 0, 2, 2);
        Checks.run(x, "1x0", 0, 9);
        c.due("12: still wanting", x.patterns(0), 9);
        Checks.run(x, "1x1", 0, 1);
        c.due("12: room for one", x.patterns(0), 6);
        row(x, 0, 3, 0);
        Checks.run(x, "1x0", 0, 1);
        c.due("12: no longer wanting, although there is room", x.patterns(0), 1);
        c.due("11: rest", x.again(0), 120);
        Checks.run(x, "1x1", 0, 1);
        c.due("12: none is wanting", x.patterns(0), 0);
        c.due("10: none is wanting", x.best(0, 0), -5);
        c.due("11: none is wanting", x.again(0), -5);
    }

    private void length() {
        PaperCutter x = new PaperCutter();
        x.addRoll(0, 106, 99);
        x.addOrder(0, 50, 31, 10, 0, 0);
        c.due("10: no more than the room", x.best(0, 3), 17);
        x.addRoll(0, 106, 16);
        c.due("10: no more than is left", x.best(1, 3), 16);
    }

    private void nothing() {
        PaperCutter x = new PaperCutter();
        x.addRoll(0, 60, 3);
        c.due("10: no orders", x.best(0, 0), -5);
        x.addOrder(0, 55, 9, 0, 0, 0);
        c.due("10: too wide", x.best(0, 0), -5);
        c.due("11: too wide", x.again(0), -5);
        c.due("12: too wide", x.patterns(0), 0);
        c.due("10: no order ahead of nothing", x.best(0, 11), -2);
        c.due("10: no what ahead of nothing", x.best(0, 4), -2);
        x.addOrder(0, 54, 9, 0, 0, 0);
        c.due("10: just fits", x.best(0, 0), 6);
        x.cut(0);
        c.due("10: nothing is left", x.best(0, 0), -5);
        c.due("11: nothing is left", x.again(0), -5);
        c.due("12: whatever is left", x.patterns(0), 1);
    }

    private void patterns() {
        PaperCutter x = new PaperCutter();
        x.set(0, 7);
        x.set(1, 0);
        x.addRoll(0, 300, 9);
        for (int i = 0; i < 8; i++) {
            x.addOrder(0, 10, 99, 0, 0, 0);
        }
        // All rows of up to six strips for eight orders: C(14, 6) - 1.
        c.due("12: many", x.patterns(0), 3002);
        c.due("10: six strips", x.best(0, 0), 240);
        row(x, 0, 6, 0, 0, 0, 0, 0, 0, 0);
        x.addRoll(0, 80, 9);
        // Those of eight strips leave nothing: C(15, 7) more.
        c.due("12: and those without a rest", x.patterns(1), 3002 + 6435);
        row(x, 1, 8, 0, 0, 0, 0, 0, 0, 0);
    }
}
