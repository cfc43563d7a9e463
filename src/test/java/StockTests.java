/** Promises 1 to 9: a new object, settings, orders, rolls, the ranking, explanations, and the text's characters. */
final class StockTests {
    private final Checks c;

    private StockTests(Checks checks) {
        c = checks;
    }

    static void all(Checks checks) {
        StockTests t = new StockTests(checks);
        t.newObject();
        t.set();
        t.addOrder();
        t.addRoll();
        t.order();
        t.orderTolerance();
        t.roll();
        t.ranked();
        t.explain();
        t.explainStrips();
        t.append();
    }

    private void newObject() {
        PaperCutter x = new PaperCutter();
        for (int what = 0; what <= 9; what++) {
            c.due("1: account(" + what + ")", x.account(what), 0);
        }
        c.due("1: knives", x.count(2), 6);
        c.due("1: edge", x.count(3), 3);
        c.due("1: least width", x.count(4), 20);
        c.due("1: changes", x.count(0), 0);
        c.due("1: text", x.count(1), 0);
        c.due("1: written", x.written(0), -1);
        c.due("1: order", x.order(0, 0), -1);
        c.due("1: roll", x.roll(0, 0), -1);
        c.due("1: run", x.made(0, 0), -1);
        c.due("1: undo", x.undo(), -5);
        c.due("1: restore", x.restore(), -5);
        c.due("1: reason", x.reason(0), -5);
    }

    private void set() {
        PaperCutter x = new PaperCutter();
        int[] first = {6, 3, 20};
        int[] low = {2, 0, 10};
        int[] high = {7, 20, 99};
        for (int what = 0; what < 3; what++) {
            c.due("2: below", x.set(what, low[what] - 1), -2);
            c.due("2: above", x.set(what, high[what] + 1), -2);
            c.due("2: unchanged", x.count(2 + what), first[what]);
            c.due("2: lowest", x.set(what, low[what]), first[what]);
            c.due("2: highest", x.set(what, high[what]), low[what]);
            c.due("2: same again", x.set(what, high[what]), high[what]);
        }
        c.due("2: changes", x.count(0), 8);
        c.due("2: no setting", x.set(3, 5), -2);
        c.due("2: no setting", x.set(-1, 5), -2);
        c.due("2: far away", x.set(Integer.MIN_VALUE, Integer.MAX_VALUE), -2);
    }

    private void addOrder() {
        PaperCutter x = new PaperCutter();
        int[][] wrong = {{-1, 10, 1, 0, 0, 0}, {4, 10, 1, 0, 0, 0}, {0, 9, 1, 0, 0, 0}, {0, 151, 1, 0, 0, 0},
            {0, 10, 0, 0, 0, 0}, {0, 10, 1000, 0, 0, 0}, {0, 10, 1, -1, 0, 0}, {0, 10, 1, 51, 0, 0},
            {0, 10, 1, 0, -1, 0}, {0, 10, 1, 0, 100, 0}, {0, 10, 1, 0, 0, -1}, {0, 10, 1, 0, 0, 2}};
        for (int[] w : wrong) {
            c.due("3: wrong", x.addOrder(w[0], w[1], w[2], w[3], w[4], w[5]), -2);
        }
        c.due("3: none was added", x.account(9), 0);
        c.due("3: lowest", x.addOrder(0, 10, 1, 0, 0, 0), 0);
        c.due("3: highest", x.addOrder(3, 150, 999, 50, 99, 1), 1);
        for (int i = 2; i < 8; i++) {
            c.due("3: number", x.addOrder(1, 20, 30, 5, 6, 1), i);
        }
        c.due("3: full", x.addOrder(1, 20, 30, 5, 6, 1), -3);
        c.due("3: wrong ahead of full", x.addOrder(1, 20, 30, 5, 6, 2), -2);
        c.due("3: eight", x.account(9), 8);
    }

    private void addRoll() {
        PaperCutter x = new PaperCutter();
        int[][] wrong = {{-1, 50, 1}, {4, 50, 1}, {0, 49, 1}, {0, 301, 1}, {0, 50, 0}, {0, 50, 1000}};
        for (int[] w : wrong) {
            c.due("4: wrong", x.addRoll(w[0], w[1], w[2]), -2);
        }
        c.due("4: lowest", x.addRoll(0, 50, 1), 0);
        c.due("4: highest", x.addRoll(3, 300, 999), 1);
        for (int i = 2; i < 12; i++) {
            c.due("4: number", x.addRoll(1, 100, 10), i);
        }
        c.due("4: full", x.addRoll(1, 100, 10), -3);
        c.due("4: wrong ahead of full", x.addRoll(1, 49, 10), -2);
        c.due("4: twelve", x.account(8), 12);
    }

    private void order() {
        PaperCutter x = new PaperCutter();
        x.addOrder(2, 70, 95, 15, 42, 1);
        x.addOrder(1, 40, 10, 0, 7, 0);
        x.addRoll(2, 200, 60);
        c.due("5: run", Checks.run(x, "2x0", 0, 30), 0);
        c.due("5: run", Checks.run(x, "1x0", 0, 20), 1);
        int[] dues = {2, 70, 95, 15, 42, 1, 81, 109, 80, 29, 0, 2};
        for (int what = 0; what < dues.length; what++) {
            c.due("5: order(0, " + what + ")", x.order(0, what), dues[what]);
        }
        c.due("5: other order", x.order(1, 8), 0);
        c.due("5: no runs", x.order(1, 11), 0);
        c.due("5: no what", x.order(0, 12), -2);
        c.due("5: no what", x.order(0, -1), -2);
        c.due("5: no order", x.order(2, 0), -1);
        c.due("5: no order ahead of no what", x.order(-1, 12), -1);
        c.due("5: one more", Checks.run(x, "1x0", 0, 1), 2);
        c.due("5: met at the least amount", x.order(0, 10), 1);
    }

    private void orderTolerance() {
        PaperCutter x = new PaperCutter();
        x.addOrder(0, 30, 199, 50, 0, 0);
        x.addOrder(0, 30, 3, 33, 0, 0);
        c.due("5: allowance is rounded down", x.order(0, 6), 100);
        c.due("5: allowance is rounded down", x.order(0, 7), 298);
        c.due("5: no allowance", x.order(1, 6), 3);
        c.due("5: no allowance", x.order(1, 7), 3);
    }

    private void roll() {
        PaperCutter x = new PaperCutter();
        x.addOrder(2, 60, 100, 0, 0, 0);
        x.addRoll(2, 150, 40);
        Checks.run(x, "1x0", 0, 10);
        Checks.run(x, "1x0", 0, 7);
        c.due("6: keep", x.keep(1), 1);
        int[] dues = {2, 150, 40, 23, 2, -5};
        int[] remnant = {2, 84, 7, 7, 0, 1};
        for (int what = 0; what < dues.length; what++) {
            c.due("6: roll(0, " + what + ")", x.roll(0, what), dues[what]);
            c.due("6: roll(1, " + what + ")", x.roll(1, what), remnant[what]);
        }
        x.swap(0, 1);
        c.due("6: the number of now", x.roll(1, 5), 0);
        c.due("6: no what", x.roll(0, 6), -2);
        c.due("6: no what", x.roll(0, -1), -2);
        c.due("6: no roll", x.roll(2, 0), -1);
        c.due("6: no roll ahead of no what", x.roll(-1, 6), -1);
    }

    private void ranked() {
        PaperCutter x = new PaperCutter();
        x.addOrder(0, 30, 1, 0, 5, 0);
        x.addOrder(0, 40, 1, 0, 5, 0);
        x.addOrder(0, 30, 1, 0, 5, 0);
        x.addOrder(0, 10, 1, 0, 4, 0);
        x.addOrder(0, 150, 1, 0, 6, 0);
        int[] dues = {3, 1, 0, 2, 4};
        for (int rank = 0; rank < dues.length; rank++) {
            c.due("7: ranked(" + rank + ")", x.ranked(rank), dues[rank]);
        }
        c.due("7: no place", x.ranked(5), -1);
        c.due("7: no place", x.ranked(-1), -1);
    }

    private void explain() {
        PaperCutter x = new PaperCutter();
        c.due("8: no order", x.explain(0), -1);
        x.addOrder(1, 60, 40, 10, 0, 0);
        x.addOrder(1, 60, 10, 0, 0, 1);
        c.due("8: no roll", x.explain(0), 1);
        x.addRoll(0, 65, 5);
        c.due("8: no roll of the grade", x.explain(0), 1);
        c.due("8: a better one, but too narrow", x.explain(1), 2);
        x.addRoll(1, 66, 35);
        c.due("8: too short", x.explain(0), 3);
        c.due("8: long enough", x.explain(1), 4);
        x.addRoll(2, 300, 999);
        c.due("8: a worse one doesn't count", x.explain(0), 3);
        x.addRoll(1, 50, 999);
        c.due("8: a narrow one gives nothing", x.explain(0), 3);
        x.addRoll(1, 66, 1);
        c.due("8: just long enough", x.explain(0), 4);
        c.due("8: run", Checks.run(x, "1x0", 1, 35), 0);
        c.due("8: what is lacking counts", x.explain(0), 4);
        c.due("8: run", Checks.run(x, "1x0", 4, 1), 1);
        c.due("8: met", x.explain(0), 0);
        c.due("8: no order", x.explain(2), -1);
        c.due("8: no order", x.explain(-1), -1);
    }

    private void explainStrips() {
        PaperCutter x = new PaperCutter();
        x.set(0, 3);
        x.set(1, 0);
        x.addRoll(0, 100, 10);
        x.addRoll(0, 110, 10);
        x.addOrder(0, 25, 60, 0, 0, 0);
        // Four strips leave nothing of 100 and need three knives; of 110 only two are possible.
        c.due("8: forty and twenty", x.explain(0), 4);
        x.addOrder(0, 25, 61, 0, 0, 0);
        c.due("8: one is lacking", x.explain(1), 3);
        PaperCutter y = new PaperCutter();
        y.addOrder(0, 60, 5, 0, 0, 0);
        y.addOrder(0, 60, 6, 0, 0, 0);
        y.addRoll(0, 100, 5);
        c.due("8: run", Checks.run(y, "1x0", 0, 5), 0);
        c.due("8: nothing is left", y.explain(1), 1);
    }

    private void append() {
        PaperCutter x = new PaperCutter();
        c.due("9: below", x.append(31), -2);
        c.due("9: above", x.append(127), -2);
        c.due("9: far away", x.append(Integer.MAX_VALUE), -2);
        c.due("9: lowest", x.append(32), 1);
        c.due("9: highest", x.append(126), 2);
        for (int i = 3; i <= 80; i++) {
            c.due("9: length", x.append('a'), i);
        }
        c.due("9: full", x.append('a'), -3);
        c.due("9: wrong ahead of full", x.append(31), -2);
        c.due("9: length stays", x.count(1), 80);
    }
}
