/** Promises 13 to 26: what makes, asks, changes, arranges and keeps runs. */
final class RunTests {
    private final Checks c;

    private RunTests(Checks checks) {
        c = checks;
    }

    static void all(Checks checks) {
        RunTests t = new RunTests(checks);
        t.run();
        t.runRefused();
        t.runFaults();
        t.cut();
        t.cutAll();
        t.remove();
        t.made();
        t.position();
        t.setup();
        t.swap();
        t.split();
        t.write();
        t.arrange();
        t.arrangeTies();
        t.leastSetups();
        t.keep();
        t.settingsOfThen();
    }

    /** Orders of 30, 40, 50 and 60, a roll of each grade. */
    private static PaperCutter mill() {
        PaperCutter x = new PaperCutter();
        x.addRoll(0, 200, 100);
        x.addRoll(1, 200, 100);
        x.addRoll(2, 150, 100);
        x.addOrder(1, 30, 100, 0, 0, 1);
        x.addOrder(1, 40, 100, 0, 0, 0);
        x.addOrder(2, 50, 100, 0, 0, 1);
        x.addOrder(2, 60, 100, 0, 0, 1);
        return x;
    }

    private void run() {
        PaperCutter x = mill();
        c.due("13: run", Checks.run(x, "1x1+2x0", 1, 5), 0);
        c.due("13: strips", x.made(0, 10), 2);
        c.due("13: strips", x.made(0, 11), 1);
        c.due("13: strips add up", Checks.run(x, "1x2+1x3+1x2", 2, 7), -4);
        c.due("13: rest", x.reason(0), 4);
        c.due("13: strips add up", Checks.run(x, "1x0+1x1+1x0", 1, 95), -4);
        c.due("13: room", x.reason(0), 7);
        c.due("13: strips add up", Checks.run(x, "1x0+1x1+1x0", 1, 45), 1);
        c.due("13: all of the room", x.order(0, 9), 0);
        c.due("13: text is empty", x.count(1), 0);
        c.due("13: no roll", Checks.run(x, "", 3, 0), -1);
        c.due("13: no roll", Checks.run(x, "1x2", -1, 1), -1);
        c.due("13: text is empty", x.count(1), 0);
        c.due("13: no length", Checks.run(x, "1x", 0, 0), -2);
        c.due("13: no length", Checks.run(x, "1x2", 0, -7), -2);
        c.due("13: text is empty", x.count(1), 0);
        c.due("13: reasons stay", x.reason(0), 7);
    }

    private void refused(PaperCutter x, String pattern, int roll, int length, int reason) {
        c.due("13: " + pattern, Checks.run(x, pattern, roll, length), -4);
        c.due("13: reason for " + pattern, x.reason(0), reason);
        c.due("13: no command", x.reason(1), -5);
        c.due("13: text is empty", x.count(1), 0);
    }

    private void runRefused() {
        PaperCutter x = mill();
        refused(x, "9x1+1x4", 0, 999, 2);
        refused(x, "1x9", 0, 1, 2);
        refused(x, "9x1+1x0", 0, 999, 3);
        refused(x, "1x0", 2, 1, 3);
        refused(x, "1x2", 1, 101, 6);
        refused(x, "3x3+1x0", 0, 999, 4);
        c.due("13: the edge just stands", Checks.run(x, "1x1+1x0", 1, 1), 0);
        x.set(0, 3);
        refused(x, "3x0", 1, 999, 5);
        refused(x, "2x0", 1, 100, 6);
        refused(x, "2x0", 1, 50, 7);
        c.due("13: all of the room but one", Checks.run(x, "2x0", 1, 49), 1);
        refused(x, "2x0", 1, 1, 7);
        refused(x, "1x0", 1, Integer.MAX_VALUE, 6);
        Checks.splitUntil(x, 1, 16);
        refused(x, "1x9", 0, 999, 1);
        c.due("13: faults ahead of reasons", Checks.run(x, "1x9+", 0, 999), -1004);
        c.due("13: unchanged", x.account(7), 16);
        PaperCutter y = new PaperCutter();
        y.set(1, 0);
        y.set(0, 2);
        y.addRoll(0, 90, 9);
        y.addOrder(0, 30, 99, 0, 0, 0);
        c.due("13: three strips without a rest need two knives", Checks.run(y, "3x0", 0, 1), 0);
        refused(y, "2x0", 0, 1, 5);
        refused(y, "4x0", 0, 1, 4);
    }

    private void runFaults() {
        PaperCutter x = mill();
        String[] texts = {"", "x", "0x1", "1", "1y0", "1x", "1xx", "1xa", "1x1", "1x1 ", "1x1+", "1x1++", "1x1+0x1",
            "1x1+1x1;", "1x10", "10x1", " 1x1", "1 x1", "1X1"};
        int[] faults = {0, 0, 0, 1, 1, 2, 2, 2, -1, 3, 4, 4, 4, 7, 3, 1, 0, 1, 1};
        for (int i = 0; i < texts.length; i++) {
            if (faults[i] >= 0) {
                c.due("13: " + texts[i], Checks.run(x, texts[i], 1, 1), -1000 - faults[i]);
                c.due("13: text is empty", x.count(1), 0);
            } else {
                c.due("13: " + texts[i], Checks.run(x, texts[i], 1, 1), 0);
            }
        }
        StringBuilder twenty = new StringBuilder("9x0");
        for (int i = 1; i < 20; i++) {
            twenty.append("+9x0");
        }
        refused(x, twenty.toString(), 1, 1, 4);
        c.due("13: a full text", Checks.run(x, twenty.append("+").toString(), 1, 1), -1080);
    }

    private void cut() {
        PaperCutter x = new PaperCutter();
        c.due("14: no roll", x.cut(0), -1);
        x.addRoll(0, 206, 30);
        c.due("14: nothing", x.cut(0), -5);
        x.addOrder(0, 70, 50, 10, 0, 0);
        x.addOrder(0, 60, 40, 0, 0, 0);
        c.due("14: cut", x.cut(0), 0);
        c.due("14: length", x.made(0, 1), 27);
        c.due("14: strips", x.made(0, 10), 2);
        c.due("14: strips", x.made(0, 11), 1);
        c.due("14: cut", x.cut(0), 1);
        c.due("14: the rest of the order", x.made(1, 11), 3);
        c.due("14: no more than is left", x.made(1, 1), 3);
        c.due("14: nothing is left", x.cut(0), -5);
        c.due("14: no roll", x.cut(-1), -1);
        Checks.splitUntil(x, 0, 16);
        c.due("14: full ahead of nothing", x.cut(0), -3);
        c.due("14: no roll ahead of full", x.cut(1), -1);
    }

    private void cutAll() {
        PaperCutter x = new PaperCutter();
        c.due("15: nothing to cut", x.cutAll(), 0);
        c.due("15: a change", x.count(0), 1);
        x.addRoll(0, 130, 2);
        x.addRoll(0, 120, 2);
        x.addRoll(0, 110, 2);
        x.addRoll(0, 110, 2);
        x.addRoll(0, 166, 1);
        x.addOrder(0, 60, 5, 0, 0, 0);
        x.addOrder(0, 50, 5, 0, 0, 0);
        x.addOrder(0, 40, 2, 0, 0, 0);
        c.due("15: cut all", x.cutAll(), 6);
        // 166 leaves 6, then each roll leaves 10, and the narrowest are cut until there is too little for two strips.
        int[] rolls = {4, 2, 2, 3, 1, 3};
        String[] rows = {"2x0+1x2", "1x0+1x2", "2x1", "2x1", "1x0+1x1", "1x0"};
        for (int run = 0; run < 6; run++) {
            c.due("15: roll of " + run, x.made(run, 0), rolls[run]);
            c.due("15: length of " + run, x.made(run, 1), 1);
            x.write(run);
            c.holds("15: pattern of " + run, Checks.written(x).equals(rows[run]));
        }
        c.due("15: all are met", x.account(6), 3);
        c.due("15: nothing more", x.cutAll(), 0);
        PaperCutter y = mill();
        Checks.run(y, "1x0", 1, 99);
        Checks.splitUntil(y, 0, 15);
        c.due("15: room for one run", y.cutAll(), 1);
        c.due("15: no room", y.cutAll(), 0);
    }

    private void remove() {
        PaperCutter x = mill();
        c.due("16: no run", x.remove(0), -1);
        Checks.run(x, "1x0", 1, 1);
        Checks.run(x, "1x1", 1, 2);
        Checks.run(x, "1x2", 2, 3);
        c.due("16: keep", x.keep(1), 3);
        c.due("16: no run", x.remove(3), -1);
        c.due("16: no run", x.remove(-1), -1);
        c.due("16: kept", x.remove(1), -4);
        c.due("16: remove", x.remove(0), 2);
        c.due("16: the numbers decrease", x.made(0, 1), 2);
        c.due("16: the numbers decrease", x.made(1, 1), 3);
        c.due("16: the order has less", x.order(0, 8), 0);
        c.due("16: the roll has more", x.roll(1, 3), 98);
        c.due("16: the remnant's run", x.roll(3, 5), 0);
        c.due("16: remove the last", x.remove(1), 1);
        c.due("16: a run of a remnant", Checks.run(x, "1x0", 3, 1), 1);
        c.due("16: can be removed", x.remove(1), 1);
    }

    private void made() {
        PaperCutter x = mill();
        Checks.run(x, "1x2", 0, 4);
        Checks.run(x, "2x0+1x1", 1, 10);
        c.due("17: keep", x.keep(1), 3);
        int[] dues = {1, 10, 3, 100, 4, 8, 60, 3, 94};
        for (int what = 0; what < dues.length; what++) {
            c.due("17: made(1, " + what + ")", x.made(1, what), dues[what]);
        }
        int[] first = {0, 4, 1, 150, 2, 2, 600, -5, 144};
        for (int what = 0; what < first.length; what++) {
            c.due("17: made(0, " + what + ")", x.made(0, what), first[what]);
        }
        c.due("17: strips", x.made(1, 10), 2);
        c.due("17: strips", x.made(1, 11), 1);
        c.due("17: strips", x.made(1, 13), 0);
        c.due("17: no order", x.made(1, 14), -2);
        c.due("17: no what", x.made(1, 9), -2);
        c.due("17: no what", x.made(1, -1), -2);
        c.due("17: no what", x.made(1, Integer.MIN_VALUE), -2);
        c.due("17: no run ahead of no what", x.made(2, 9), -1);
        c.due("17: no run", x.made(-1, 0), -1);
    }

    private void places(String what, PaperCutter x, int run, String due) {
        c.holds("18: " + what + ": " + Checks.positions(x, run), Checks.positions(x, run).equals(due));
    }

    private void position() {
        PaperCutter x = mill();
        Checks.run(x, "1x1+2x0", 1, 1);
        places("by the orders' numbers", x, 0, "3 33 63 103");
        x.set(1, 0);
        Checks.run(x, "1x1+2x0", 1, 1);
        places("no edge, but a rest", x, 1, "0 30 60 100");
        Checks.run(x, "3x2", 2, 1);
        places("no rest", x, 2, "50 100");
        Checks.run(x, "4x0+2x1", 1, 1);
        places("five knives", x, 3, "30 60 90 120 160");
        c.due("18: no position", x.position(0, 4), -1);
        c.due("18: no position", x.position(0, -1), -1);
        c.due("18: no run", x.position(4, 0), -1);
        c.due("18: no run", x.position(-1, 0), -1);
        PaperCutter y = new PaperCutter();
        y.set(1, 0);
        y.set(0, 7);
        y.addRoll(0, 80, 9);
        y.addRoll(0, 50, 9);
        y.addOrder(0, 10, 99, 0, 0, 0);
        y.addOrder(0, 50, 99, 0, 0, 0);
        Checks.run(y, "8x0", 0, 1);
        places("seven knives", y, 0, "10 20 30 40 50 60 70");
        Checks.run(y, "1x1", 1, 1);
        places("a whole roll", y, 1, "");
        c.due("18: no positions", y.made(1, 4), 0);
    }

    private void setup() {
        PaperCutter x = mill();
        Checks.run(x, "2x0", 1, 1);
        Checks.run(x, "3x0", 1, 1);
        Checks.run(x, "1x3", 0, 1);
        c.due("19: none ahead", x.setup(0, -1), 3);
        c.due("19: none ahead", x.setup(1, -1), 4);
        c.due("19: one more", x.setup(1, 0), 1);
        c.due("19: one less", x.setup(0, 1), 0);
        c.due("19: another grade", x.setup(2, 0), 5);
        c.due("19: another grade", x.setup(1, 2), 7);
        c.due("19: the same run", x.setup(1, 1), -1);
        c.due("19: no run", x.setup(3, 0), -1);
        c.due("19: no run", x.setup(0, 3), -1);
        c.due("19: no run", x.setup(-1, -1), -1);
        c.due("19: no run", x.setup(0, -2), -1);
    }

    private void swap() {
        PaperCutter x = mill();
        c.due("20: no run", x.swap(0, 0), -1);
        Checks.run(x, "2x0", 1, 1);
        Checks.run(x, "3x0", 1, 2);
        c.due("20: sum", x.account(4), 4);
        Checks.run(x, "1x1", 1, 3);
        c.due("20: sum", x.account(4), 5);
        c.due("20: swap", x.swap(2, 0), 5);
        c.due("20: lengths", x.made(0, 1), 3);
        c.due("20: lengths", x.made(2, 1), 1);
        c.due("20: the same", x.swap(1, 1), 5);
        c.due("20: a change all the same", x.undo(), 7);
        c.due("20: no run", x.swap(0, 3), -1);
        c.due("20: no run", x.swap(-1, 0), -1);
    }

    private void split() {
        PaperCutter x = mill();
        c.due("21: no run", x.split(0, 1), -1);
        Checks.run(x, "2x0", 1, 10);
        Checks.run(x, "1x1", 1, 20);
        c.due("21: too short", x.split(0, 0), -2);
        c.due("21: too long", x.split(0, 10), -2);
        x.set(1, 5);
        c.due("21: split", x.split(0, 9), 1);
        c.due("21: first", x.made(0, 1), 9);
        c.due("21: second", x.made(1, 1), 1);
        c.due("21: same pattern", x.made(1, 10), 2);
        c.due("21: same positions", x.position(1, 0), 3);
        c.due("21: no setup", x.made(1, 5), 0);
        c.due("21: the later ones increase", x.made(2, 1), 20);
        c.due("21: as much is made", x.order(0, 8), 20);
        c.due("21: too short to be split", x.split(1, 1), -2);
        c.due("21: keep", x.keep(2), 3);
        c.due("21: wrong ahead of kept", x.split(2, 20), -2);
        c.due("21: kept", x.split(2, 19), -4);
        for (int runs = 3; runs < 16; runs++) {
            Checks.run(x, "1x1", 1, 2);
        }
        c.due("21: kept ahead of full", x.split(2, 1), -4);
        c.due("21: wrong ahead of full", x.split(0, 9), -2);
        c.due("21: full", x.split(0, 1), -3);
        c.due("21: no run", x.split(16, 1), -1);
    }

    private void write() {
        PaperCutter x = mill();
        c.due("22: no run", x.write(0), -1);
        Checks.run(x, "1x1+2x0", 1, 1);
        Checks.run(x, "1x3", 0, 1);
        c.due("22: length", x.write(0), 7);
        c.holds("22: text", Checks.written(x).equals("2x0+1x1"));
        c.due("22: no run", x.write(2), -1);
        c.due("22: no run", x.write(-1), -1);
        c.holds("22: text stays", Checks.written(x).equals("2x0+1x1"));
        c.due("23: first", x.written(0), '2');
        c.due("23: last", x.written(6), '1');
        c.due("23: no index", x.written(7), -1);
        c.due("23: no index", x.written(-1), -1);
        x.undo();
        c.due("23: undo doesn't concern it", x.written(6), '1');
        x.save();
        x.restore();
        c.due("23: the snapshot doesn't concern it", x.written(6), '1');
        x.remove(0);
        c.due("23: nor does a removal", x.written(6), '1');
        Checks.run(x, "1x3", 0, 1);
        c.due("22: shorter", x.write(0), 3);
        c.holds("22: text", Checks.written(x).equals("1x3"));
        PaperCutter y = new PaperCutter();
        y.set(0, 7);
        y.set(1, 0);
        y.addRoll(0, 80, 1);
        for (int o = 0; o < 8; o++) {
            y.addOrder(0, 10, 1, 0, 0, 0);
        }
        y.cut(0);
        c.due("22: longest", y.write(0), 31);
        c.holds("22: text", Checks.written(y).equals("1x0+1x1+1x2+1x3+1x4+1x5+1x6+1x7"));
    }

    private void arrange() {
        PaperCutter x = new PaperCutter();
        c.due("24: no way", x.arrange(2), -2);
        c.due("24: no way", x.arrange(-1), -2);
        c.due("24: no runs", x.arrange(0), 0);
        c.due("24: no runs", x.arrange(1), 0);
        c.due("24: changes", x.count(0), 2);
        x = mill();
        Checks.run(x, "3x0", 1, 1);
        Checks.run(x, "1x3", 0, 2);
        Checks.run(x, "1x0", 1, 3);
        Checks.run(x, "2x0", 1, 14);
        c.due("24: keep", x.keep(0), 3);
        // First the lower one of two with two positions; behind it the least setup, again and again.
        c.due("24: way 0", x.arrange(0), 2 + 6 + 1 + 1);
        int[] chained = {2, 3, 14, 1};
        for (int run = 0; run < 4; run++) {
            c.due("24: run " + run, x.made(run, 1), chained[run]);
        }
        c.due("24: the remnant's run", x.roll(3, 5), 3);
        c.due("25: least", x.leastSetups(), 9);
        c.due("24: way 1", x.arrange(1), 9);
        // Several orders of the runs come to 9; this one is the first of them.
        int[] least = {2, 14, 1, 3};
        for (int run = 0; run < 4; run++) {
            c.due("24: run " + run, x.made(run, 1), least[run]);
        }
        Checks.splitUntil(x, 1, 7);
        c.due("24: seven", x.arrange(1), 9);
        c.due("25: seven", x.leastSetups(), 9);
        Checks.splitUntil(x, 1, 8);
        c.due("24: too many", x.arrange(1), -4);
        c.due("25: too many", x.leastSetups(), -4);
        c.holds("24: but not for way 0", x.arrange(0) > 0);
    }

    private void arrangeTies() {
        PaperCutter x = mill();
        x.addOrder(1, 70, 50, 0, 0, 0);
        Checks.run(x, "1x4", 1, 1);
        Checks.run(x, "1x1", 1, 2);
        Checks.run(x, "1x0", 1, 3);
        c.due("24: all orders are alike", x.arrange(1), 4);
        for (int run = 0; run < 3; run++) {
            c.due("24: lexicographically first", x.made(run, 1), run + 1);
        }
        c.due("24: all orders are alike", x.arrange(0), 4);
        for (int run = 0; run < 3; run++) {
            c.due("24: the lowest numbers", x.made(run, 1), run + 1);
        }
    }

    private void leastSetups() {
        PaperCutter x = mill();
        c.due("25: no runs", x.leastSetups(), 0);
        // Way 0 starts with the roll of grade 0 and pays for each change of the grade; way 1 starts elsewhere.
        Checks.run(x, "1x3", 2, 1);
        Checks.run(x, "1x3", 0, 1);
        Checks.run(x, "2x2", 2, 1);
        Checks.run(x, "1x2", 2, 1);
        int least = x.leastSetups();
        c.due("25: asking changes nothing", x.made(0, 5), 2);
        int chained = x.arrange(0);
        c.holds("25: no more than way 0", least <= chained);
        c.due("25: way 1", x.arrange(1), least);
        c.due("25: least", least, 2 + 5 + 1 + 1);
    }

    private void keep() {
        PaperCutter x = mill();
        c.due("26: no run", x.keep(0), -1);
        Checks.run(x, "3x0", 1, 8);
        Checks.run(x, "2x2", 2, 9);
        c.due("26: no run", x.keep(2), -1);
        c.due("26: no run", x.keep(-1), -1);
        x.set(2, 99);
        c.due("26: wide enough", x.keep(0), 3);
        c.due("26: kept already", x.keep(0), -4);
        x.set(2, 45);
        c.due("26: too narrow", x.keep(1), -4);
        x.set(2, 44);
        c.due("26: just wide enough", x.keep(1), 4);
        c.due("26: grade", x.roll(4, 0), 2);
        c.due("26: width", x.roll(4, 1), 44);
        c.due("26: length", x.roll(4, 2), 9);
        c.due("26: the roll", x.made(1, 7), 4);
        c.due("26: waste", x.made(1, 6), 54);
        c.due("26: a remnant can be cut", Checks.run(x, "1x0", 3, 2), 2);
        x.addOrder(1, 10, 100, 0, 0, 0);
        c.due("26: another run", Checks.run(x, "1x0", 3, 1), 3);
        for (int rolls = 5; rolls < 12; rolls++) {
            x.addRoll(0, 50, 1);
        }
        c.due("26: refused ahead of full", x.keep(0), -4);
        c.due("26: full", x.keep(2), -3);
    }

    private void settingsOfThen() {
        PaperCutter x = mill();
        Checks.run(x, "2x0", 1, 2);
        x.set(1, 10);
        x.set(0, 2);
        c.due("2: positions stay", x.position(0, 0), 3);
        c.due("2: remnants stay", x.made(0, 8), 134);
        c.due("2: runs stay", x.made(0, 4), 3);
        x.keep(0);
        c.due("2: the edge of then", x.roll(3, 1), 134);
        c.due("2: waste", x.made(0, 6), 12);
        c.due("2: the new edge", Checks.run(x, "1x0", 1, 2), 1);
        c.due("2: the new edge", x.position(1, 0), 10);
    }
}
