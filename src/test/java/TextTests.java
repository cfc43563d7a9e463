/** Promises 30 to 35: texts of commands, reasons, undo, the snapshot and counts. */
final class TextTests {
    private final Checks c;

    private TextTests(Checks checks) {
        c = checks;
    }

    static void all(Checks checks) {
        TextTests t = new TextTests(checks);
        t.execute();
        t.executeFaults();
        t.executeRefused();
        t.fullTexts();
        t.reason();
        t.undo();
        t.undoOfEach();
        t.snapshot();
        t.count();
    }

    private void execute() {
        PaperCutter x = new PaperCutter();
        c.due("30: rolls", Checks.execute(x, "roll 0 200 030;roll 1 120 5"), 2);
        c.due("30: orders", Checks.execute(x, "order 0 60 20 10 5;order 1 050 007 0 09 better"), 2);
        c.due("30: text is empty", x.count(1), 0);
        c.due("30: one change each", x.count(0), 2);
        c.due("30: length", x.roll(0, 2), 30);
        c.due("30: due date", x.order(0, 4), 5);
        c.due("30: not better", x.order(0, 5), 0);
        c.due("30: better", x.order(1, 5), 1);
        c.due("30: amount", x.order(1, 2), 7);
        c.due("30: cuts", Checks.execute(x, "cut 0;cut 1;arrange 0"), 3);
        c.due("30: runs", x.account(7), 2);
        c.due("30: all", Checks.execute(x, "all;arrange 1"), 2);
        c.due("30: as all", x.ifAll(0), 0);
        c.due("30: back", x.undo(), 3);
        c.due("30: all of the text", x.undo(), 2);
        c.due("30: runs", x.account(7), 0);
        c.due("30: back", x.undo(), 1);
        c.due("30: orders", x.account(9), 0);
    }

    private void executeFaults() {
        String[] texts = {"", ";", "Cut 0", " cut 0", "cut", "cut ", "cut  0", "cut 0 ", "cut 0;", "cut 0;;",
            "cut 0000", "cut a", "cut0", "cutt 0", "cu", "ordr 1", "c", "all;al", "all 1", "alls", "allz", "allS",
            "arrange", "arrange 1 1", "roll 0 100", "roll 0 100 10 1", "roll 0 100 1000", "order 0 10 1 0 0 ",
            "order 0 10 1 0 0 b", "order 0 10 1 0 0 bett", "order 0 10 1 0 0 betters", "order 0 10 1 0 0 better ",
            "order 0 10 1 0 0 better1", "order 0 10 1 0 0 cut", "order 0 10 1 0 better", "order 0 10 1 0 0 1",
            "better", "order 0 10 1 0 0better", "roll 0 100 1 better", "cut 9;cut x", "order 0 10 1 0 0  better",
            "cut -1", "all,all", "order 0 10 1 0 0 Better"};
        int[] faults = {0, 0, 0, 0, 3, 4, 4, 5, 6, 6, 7,
            4, 3, 0, 0, 0, 0, 4, 3, 0, 0, 3, 7, 9,
            10, 13, 14, 17, 17,
            17, 17, 23,
            23, 17, 15, 17,
            0, 16, 12, 10, 17,
            4, 3, 17};
        for (int i = 0; i < texts.length; i++) {
            PaperCutter x = new PaperCutter();
            x.addRoll(0, 100, 1);
            c.due("30: \"" + texts[i] + "\"", Checks.execute(x, texts[i]), -1000 - faults[i]);
            c.due("30: text is empty", x.count(1), 0);
            c.due("30: nothing was carried out", x.count(0), 1);
            c.due("31: a wrong text has no reason", x.reason(0), -5);
        }
    }

    private void executeRefused() {
        PaperCutter x = new PaperCutter();
        x.set(2, 50);
        c.due("30: refused", Checks.execute(x, "roll 0 100 9;order 0 50 9 0 0;all;roll 0 49 9"), -4);
        c.due("31: code", x.reason(0), -2);
        c.due("31: number", x.reason(1), 3);
        c.due("30: nothing stays", x.account(8) + x.account(9) + x.account(7), 0);
        c.due("30: no change", x.count(0), 1);
        c.due("30: refused", Checks.execute(x, "cut 0"), -4);
        c.due("31: code", x.reason(0), -1);
        c.due("31: number", x.reason(1), 0);
        c.due("30: refused", Checks.execute(x, "roll 0 100 9;cut 0"), -4);
        c.due("31: code", x.reason(0), -5);
        c.due("31: number", x.reason(1), 1);
        c.due("30: refused", Checks.execute(x, "arrange 2"), -4);
        c.due("31: code", x.reason(0), -2);
        c.due("30: refused", Checks.execute(x, "order 4 50 9 0 0"), -4);
        c.due("31: code", x.reason(0), -2);
        for (int i = 0; i < 8; i++) {
            x.addOrder(0, 50, 99, 0, 0, 0);
        }
        c.due("30: refused", Checks.execute(x, "order 0 50 9 0 0 better"), -4);
        c.due("31: code", x.reason(0), -3);
        c.due("30: full of undo", x.undo(), 7);
    }

    private void fullTexts() {
        PaperCutter x = new PaperCutter();
        StringBuilder alls = new StringBuilder("all");
        for (int i = 1; i < 20; i++) {
            alls.append(";all");
        }
        c.due("30: twenty commands", Checks.execute(x, alls.toString()), 20);
        c.due("30: eighty characters", Checks.execute(x, alls + ";"), -1080);
        c.due("30: another sign at the end", Checks.execute(x, alls + "x"), -1076);
    }

    private void reason() {
        PaperCutter x = new PaperCutter();
        c.due("31: none", x.reason(0), -5);
        c.due("31: none", x.reason(1), -5);
        c.due("31: no what", x.reason(2), -2);
        c.due("31: no what", x.reason(-1), -2);
        x.addRoll(0, 100, 9);
        c.due("31: refused", Checks.run(x, "1x0", 0, 1), -4);
        c.due("31: run", x.reason(0), 2);
        c.due("31: run", x.reason(1), -5);
        Checks.execute(x, "all;all;cut 7");
        c.due("31: command", x.reason(0), -1);
        c.due("31: command", x.reason(1), 2);
        Checks.execute(x, "all");
        c.due("31: stays behind a success", x.reason(1), 2);
        x.save();
        x.undo();
        c.due("31: stays behind undo", x.reason(1), 2);
        x.restore();
        c.due("31: stays behind restore", x.reason(1), 2);
        x.cut(5);
        c.due("31: only texts have reasons", x.reason(1), 2);
    }

    private void undo() {
        PaperCutter x = new PaperCutter();
        c.due("32: nothing", x.undo(), -5);
        for (int i = 0; i < 10; i++) {
            x.addRoll(0, 50 + i, 1);
        }
        c.due("32: at most eight", x.count(0), 8);
        for (int i = 7; i >= 0; i--) {
            c.due("32: undo", x.undo(), i);
            c.due("32: rolls", x.account(8), 2 + i);
        }
        c.due("32: no more", x.undo(), -5);
        c.due("32: rolls", x.account(8), 2);
        x.addRoll(0, 99, 1);
        x.addRoll(0, 98, 1);
        c.due("32: undo", x.undo(), 1);
        x.addRoll(0, 97, 1);
        c.due("32: undo", x.undo(), 1);
        c.due("32: the first one is left", x.roll(2, 1), 99);
        x.addRoll(0, 49, 1);
        c.due("32: errors are no changes", x.count(0), 1);
    }

    private void undone(String what, PaperCutter x, int answer) {
        int changes = x.count(0);
        int runs = x.account(7);
        c.holds("32: " + what, answer >= 0);
        c.due("32: undo of " + what, x.undo(), changes - 1);
        c.holds("32: undo of " + what, runs >= x.account(7) || what.equals("remove"));
    }

    private void undoOfEach() {
        PaperCutter x = new PaperCutter();
        undone("set", x, x.set(0, 7));
        c.due("32: knives", x.count(2), 6);
        undone("addOrder", x, x.addOrder(0, 50, 99, 0, 0, 0));
        c.due("32: orders", x.account(9), 0);
        undone("addRoll", x, x.addRoll(0, 100, 9));
        c.due("32: rolls", x.account(8), 0);
        x.addOrder(0, 50, 99, 0, 0, 0);
        x.addRoll(0, 100, 9);
        undone("run", x, Checks.run(x, "1x0", 0, 2));
        undone("cut", x, x.cut(0));
        undone("cutAll", x, x.cutAll());
        c.due("32: runs", x.account(7), 0);
        Checks.run(x, "1x0", 0, 2);
        Checks.run(x, "1x0", 0, 3);
        undone("remove", x, x.remove(0));
        c.due("32: runs", x.account(7), 2);
        undone("swap", x, x.swap(0, 1));
        c.due("32: order of the runs", x.made(0, 1), 2);
        undone("split", x, x.split(0, 1));
        c.due("32: length", x.made(0, 1), 2);
        undone("arrange", x, x.arrange(0));
        undone("keep", x, x.keep(0));
        c.due("32: kept", x.made(0, 7), -5);
        undone("execute", x, Checks.execute(x, "all;all"));
        c.due("32: asking is no change", x.count(0), 4);
        x.write(0);
        x.save();
        x.append('a');
        c.due("32: saving is no change", x.count(0), 4);
        x.undo();
        c.due("32: the text stays", x.count(1), 1);
    }

    private void snapshot() {
        PaperCutter x = new PaperCutter();
        c.due("34: nothing", x.restore(), -5);
        x.addOrder(0, 50, 99, 0, 0, 0);
        x.addRoll(0, 100, 9);
        x.set(1, 7);
        Checks.run(x, "1x0", 0, 2);
        c.due("33: save", x.save(), 1);
        c.due("33: no change", x.count(0), 4);
        x.set(1, 1);
        x.keep(0);
        x.addRoll(0, 100, 9);
        x.addOrder(0, 50, 99, 0, 0, 0);
        Checks.run(x, "1x0", 0, 3);
        x.append('q');
        c.due("34: restore", x.restore(), 1);
        c.due("34: edge", x.count(3), 7);
        c.due("34: rolls", x.account(8), 1);
        c.due("34: orders", x.account(9), 1);
        c.due("34: not kept", x.made(0, 7), -5);
        c.due("34: the text stays", x.count(1), 1);
        c.due("34: nothing can be undone", x.count(0), 0);
        c.due("34: nothing can be undone", x.undo(), -5);
        x.remove(0);
        c.due("34: the snapshot stays", x.restore(), 1);
        x.remove(0);
        c.due("33: in place of the earlier one", x.save(), 0);
        c.due("33: undo", x.undo(), 0);
        c.due("33: undo doesn't concern it", x.restore(), 0);
    }

    private void count() {
        PaperCutter x = new PaperCutter();
        x.set(0, 4);
        x.set(1, 8);
        x.set(2, 33);
        x.append('a');
        x.append('b');
        int[] dues = {3, 2, 4, 8, 33};
        for (int what = 0; what < dues.length; what++) {
            c.due("35: count(" + what + ")", x.count(what), dues[what]);
        }
        c.due("35: no what", x.count(5), -2);
        c.due("35: no what", x.count(-1), -2);
    }
}
