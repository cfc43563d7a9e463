/** The edges of promises 30 and 31: texts of commands, and reasons. */
final class TextEdges extends Edges {
    private static final String TWENTY = "all" + ";all".repeat(19);

    TextEdges(Checks checks, Sentences sentences) {
        super(checks, sentences);
    }

    @Override
    void all() {
        wellFormed();
        faults();
        words();
        failures();
        reasons();
    }

    /** The fault position, with all that has to stand unchanged behind it. */
    private void fault(String text, int position) {
        PaperCutter x = busy();
        due("\"" + text + "\" ", Checks.execute(x, text), -1000 - position);
        due("\"" + text + "\" ", x.count(1), 0);
        due("\"" + text + "\" ", x.reason(0), NONE);
        due("\"" + text + "\" ", x.count(0), busy().count(0));
    }

    private void fine(String text, int commands) {
        PaperCutter x = new PaperCutter();
        x.addRoll(0, 100, 9);
        order(x, 0, 50, 99);
        due("\"" + text + "\" ", Checks.execute(x, text), commands);
        due("\"" + text + "\" ", x.count(0), 3);
        due("\"" + text + "\" ", x.count(1), 0);
    }

    // ---- promise 30: texts that are right

    private void wellFormed() {
        test(30, "A text of commands is a sequence of one or more commands with \";\" between them", this::oneOrMore);
        test(30, "\"order\" with the grade, the width, the amount, the tolerance and the due date, and then \""
            + " better\" if it accepts better grades", this::orders);
        test(30, "\"roll\" with the grade, the width and the length", this::rolls);
        test(30, "\"cut\" with the roll; \"all\" to cut all; \"arrange\" with the way.", this::cutsAndWays);
        test(30, "a number has one to three digits, zeros at the front allowed.", this::digits);
        test(30, "Returns the number of commands", this::countsCommands);
        test(30, "Reads the text as commands and carries them out, all or none.", this::allOrNone);
    }

    private void oneOrMore(PaperCutter x) {
        fine("all", 1);
        fine("all;all", 2);
        fine("cut 0;arrange 1;all", 3);
        fault("", 0);
        fault(";", 0);
        fault(";all", 0);
        fault("all;", 4);
        fault("all;;all", 4);
        fault("all;all;", 8);
        fault("all,all", 3);
        fault("all all", 3);
        fault("all+all", 3);
        fault("all :all", 3);
    }

    private void orders(PaperCutter x) {
        due(Checks.execute(x, "order 3 150 999 50 99 better"), 1);
        each(what -> x.order(0, what), 3, 150, 999, 50, 99, 1, 500);
        due(Checks.execute(x, "order 0 10 1 0 0"), 1);
        each(what -> x.order(1, what), 0, 10, 1, 0, 0, 0, 1);
        due(Checks.execute(x, "order 1 20 2 3 4 better;order 2 30 5 6 7"), 2);
        each(what -> x.order(2, what), 1, 20, 2, 3, 4, 1, 2);
        each(what -> x.order(3, what), 2, 30, 5, 6, 7, 0, 5);
        fault("order", 5);
        fault("order 0 10 1 0", 14);
        fault("order 0 10 1 0;all", 14);
        fault("order 0 10 1 0 0 1", 17);
        fault("order 0 10 1 0 0  better", 17);
        fault("order 0 10 1 0 0better", 16);
        fault("order 0 10 1 0 0 better 1", 23);
        fault("order 0 10 1 0 0 better better", 23);
        fault("order 0 10 1 0 better", 15);
    }

    private void rolls(PaperCutter x) {
        due(Checks.execute(x, "roll 3 300 999;roll 0 50 1"), 2);
        each(what -> x.roll(0, what), 3, 300, 999);
        each(what -> x.roll(1, what), 0, 50, 1);
        fault("roll", 4);
        fault("roll 0 100", 10);
        fault("roll 0 100;all", 10);
        fault("roll 0 100 1 1", 12);
        fault("roll 0 100 1 better", 12);
    }

    private void cutsAndWays(PaperCutter x) {
        x.addRoll(0, 106, 2);
        order(x, 0, 50, 9);
        due(Checks.execute(x, "cut 0;arrange 0"), 2);
        due(x.account(7), 1);
        x.undo();
        due(Checks.execute(x, "all"), 1);
        due(x.account(7), 1);
        fault("cut", 3);
        fault("cut 0 0", 5);
        fault("all 0", 3);
        fault("arrange", 7);
        fault("arrange 0 0", 9);
        fault("arrange;all", 7);
    }

    private void digits(PaperCutter x) {
        due(Checks.execute(x, "roll 1 100 9;roll 01 0100 9"), -1024);
        due(Checks.execute(x, "roll 1 100 9;roll 001 100 009;roll 01 99 09"), 3);
        each(what -> x.roll(1, what), 1, 100, 9);
        each(what -> x.roll(2, what), 1, 99, 9);
        due(Checks.execute(x, "roll 0 100 999"), 1);
        due(x.roll(3, 2), 999);
        fault("cut 1000", 7);
        fault("cut 0000", 7);
        fault("cut 0009", 7);
        fault("cut ;all", 4);
        fault("cut /", 4);
        fault("cut :", 4);
        fault("cut -1", 4);
        fault("cut 1:", 5);
        fault("cut 12/", 6);
        fault("cut +1", 4);
        fault("order 0 10 1 0 0000", 18);
    }

    private void countsCommands(PaperCutter x) {
        due(Checks.execute(x, TWENTY), 20);
        due(x.count(0), 1);
        fault(TWENTY + ";", 80);
        fault("all;".repeat(19) + "alx", 76);
        due(Checks.type(x, TWENTY + ";"), 80);
        due(x.append('a'), FULL);
        due(x.execute(), -1080);
    }

    private void allOrNone(PaperCutter x) {
        refusedText(REFUSED, Edges::busy, "roll 0 100 9;cut 12", y -> y.execute());
        refusedText(REFUSED, Edges::busy, "arrange 0;all;roll 0 49 1", y -> y.execute());
        refusedText(REFUSED, Edges::busy, "order 0 10 9 0 0;order 4 10 9 0 0", y -> y.execute());
        refusedText(-1013, Edges::busy, "roll 0 100 9;bad", y -> y.execute());
        due(Checks.execute(x, "roll 0 106 9;order 0 50 9 0 0;cut 0;all;arrange 1"), 5);
        due(x.count(0), 1);
        due(x.account(7), 2);
        due(x.undo(), 0);
        due(x.account(7) + x.account(8) + x.account(9), 0);
    }

    // ---- promise 30: texts that are wrong

    private void faults() {
        test(30, "The fault position of a text is the index of its first character with which no such text can"
            + " continue, or its length if it ends too early", this::firstWrong);
        test(30, "with one blank ahead of each number and nothing else between", this::blanks);
        test(30, "an empty text is wrong at 0.", x -> refusedText(-1000, Edges::busy, "", y -> y.execute()));
        test(30, "The text is empty behind run and execute whatever they return", this::emptied);
    }

    private void firstWrong(PaperCutter x) {
        fault("1", 0);
        fault(" all", 0);
        fault("?", 0);
        fault("roll 0 100 ", 11);
        fault("roll 0 100 9;", 13);
        fault("roll 0 100 9;cut", 16);
        fault("roll 0 100 9;cut ", 17);
        fault("roll 0 100 9;cut x", 17);
        fault("roll 0 100 9x", 12);
        fault("roll 0 100 9.5", 12);
        fault("cut 1,2", 5);
        fault("cut 99;cut", 10);
        String nineteen = "all;".repeat(19);
        fault(nineteen + "cut ", 80);
        fault(nineteen + "cut;", 79);
        fault(nineteen + "allx", 76);
        fault(nineteen + "all ", 79);
    }

    private void blanks(PaperCutter x) {
        fault("cut0", 3);
        fault("cut  0", 4);
        fault("cut 0 ", 5);
        fault("cut 0 ;all", 5);
        fault("cut 0; all", 6);
        fault("all ", 3);
        fault("all ;all", 3);
        fault("roll 0  100 9", 7);
        fault("roll 0,100,9", 6);
        fault("roll  0 100 9", 5);
        fault("order 0 10 1 0  0", 15);
        fault("arrange_1", 7);
    }

    private void emptied(PaperCutter x) {
        for (String text : new String[] {"all", "", "x", "cut 9", "all;", "arrange 1"}) {
            Checks.execute(x, text);
            due(text + " ", x.count(1), 0);
        }
        due(x.execute(), -1000);
        due(Checks.type(x, "all"), 3);
        due(x.execute(), 1);
    }

    // ---- promise 30: words

    private void words() {
        test(30, "but a word that cannot stand at its place is wrong at its first letter.", this::wrongWords);
        test(30, "A word is as many small letters as follow", this::wholeWords);
        test(30, "A beginning of a word at the end of a text is wrong at its first letter", this::begunWords);
        test(30, "a blank behind the last number of \"order\" has to be followed by \"better\".", this::behindOrder);
    }

    private void wrongWords(PaperCutter x) {
        fault("cat 0", 0);
        fault("better", 0);
        fault("set 0 3", 0);
        fault("roll 0 cut", 7);
        fault("cut all", 4);
        fault("all;better", 4);
        fault("all;order 0 10 1 0 0 cut", 21);
        fault("all;order 0 10 1 0 0 order", 21);
        fault("roll 0 100 better", 11);
        fault("cut 0cut", 5);
        fault("cut 0all", 5);
    }

    private void wholeWords(PaperCutter x) {
        fault("cutt 0", 0);
        fault("alls", 0);
        fault("alla", 0);
        fault("allz", 0);
        fault("zall", 0);
        fault("allall", 0);
        fault("rolls 0 100 9", 0);
        fault("orderly", 0);
        fault("arranged 0", 0);
        fault("all;cuts 0", 4);
        fault("order 0 10 1 0 0 betters", 17);
        fault("order 0 10 1 0 0 betterall", 17);
        fault("Cut 0", 0);
        fault("cUt 0", 0);
        fault("cuT 0", 0);
        fault("cutT 0", 3);
        fault("all{", 3);
        fault("all`", 3);
        fault("ALL", 0);
        fault("cut{0", 3);
    }

    private void begunWords(PaperCutter x) {
        for (String word : new String[] {"order", "roll", "cut", "all", "arrange"}) {
            for (int length = 1; length < word.length(); length++) {
                fault(word.substring(0, length), 0);
                fault("all;" + word.substring(0, length), 4);
            }
        }
        fault("order 0 10 1 0 0 b", 17);
        fault("order 0 10 1 0 0 bette", 17);
        fault("all;cut 0;c", 10);
    }

    private void behindOrder(PaperCutter x) {
        fault("order 0 10 1 0 0 ", 17);
        fault("order 0 10 1 0 0 ;all", 17);
        fault("order 0 10 1 0 0 9", 17);
        fault("order 0 10 1 0 0 Better", 17);
        fault("order 0 10 1 0 0 be tter", 17);
        fault("order 0 10 1 0 0 better ", 23);
        fault("order 0 10 1 0 0 better;", 24);
        fault("order 0 10 1 0 0 better1", 23);
        fine("order 0 10 1 0 0 better;all", 2);
        fine("order 0 10 1 0 0;all", 2);
    }

    // ---- promise 30: commands that fail

    private void failures() {
        test(30, "A command fails if the corresponding method returns an error code.", this::failsAsMethods);
        test(30, "Returns the number of commands; -1000 minus the fault position if the text is wrong; REFUSED if a"
            + " command fails, and its reason is kept.", this::faultAheadOfFailure);
    }

    private void fails(PaperCutter x, String text, int code, int command) {
        String before = Look.stock(x);
        int changes = x.count(0);
        due("\"" + text + "\" ", Checks.execute(x, text), REFUSED);
        due("code of \"" + text + "\" ", x.reason(0), code);
        due("number in \"" + text + "\" ", x.reason(1), command);
        due(x.count(1), 0);
        due(x.count(0), changes);
        same(Look.stock(x), before);
    }

    private void failsAsMethods(PaperCutter x) {
        String[] outside = {"order 4 10 1 0 0", "order 0 9 1 0 0", "order 0 151 1 0 0", "order 0 10 0 0 0",
            "order 0 10 1 51 0", "order 0 10 1 0 100", "roll 4 50 1", "roll 0 49 1", "roll 0 301 1", "roll 0 50 0",
            "arrange 2", "arrange 999"};
        for (String text : outside) {
            fails(new PaperCutter(), text, BAD, 0);
            fails(new PaperCutter(), "all;" + text + ";all", BAD, 1);
        }
        fails(x, "cut 0", NONE, 0);
        fails(withRolls(12), "all;cut 12", NONE, 1);
        fails(withRolls(12), "cut 11", NOTHING, 0);
        fails(withRolls(12), "all;all;roll 0 50 1", FULL, 2);
        fails(withRolls(11), "roll 0 50 1;roll 0 50 1", FULL, 1);
        fails(withOrders(8), "order 0 10 1 0 0", FULL, 0);
        fails(withOrders(7), "order 0 10 1 0 0;order 0 10 1 0 0 better", FULL, 1);
        fails(withRuns(16), "all;cut 0", FULL, 1);
        fails(withRuns(15), "cut 0;cut 0", FULL, 1);
        fails(withRuns(8), "arrange 0;arrange 1", REFUSED, 1);
        due(Checks.execute(withRuns(7), "arrange 0;arrange 1"), 2);
        due(Checks.execute(withRuns(16), "all"), 1);
        fails(withRolls(1), "all;".repeat(18) + "cut 1", NONE, 18);
    }

    private void faultAheadOfFailure(PaperCutter x) {
        due(Checks.execute(x, "cut 9;cut x"), -1010);
        due(x.reason(0), NOTHING);
        refusedText(-1010, Edges::busy, "cut 9;cut x", y -> y.execute());
        fails(x, "cut 9;arrange 9", NONE, 0);
        fails(x, "arrange 9;cut 9", BAD, 0);
    }

    // ---- promise 31

    private void reasons() {
        test(31, "`what`: 0 for the reason: 1 to 7 for a run, or the error code that a command returned; 1 for the"
            + " number of the command, from 0, or NOTHING for a run", this::bothNumbers);
        test(31, "Returns a number about the reason that was kept last.", this::keptLast);
        test(31, "NOTHING if no reason was kept.", this::noReason);
        test(31, "Returns the number; BAD if there is no such what; NOTHING if no reason was kept.", this::noWhat);
        test(31, "Reasons stay behind undo and restore.", this::stay);
    }

    private void bothNumbers(PaperCutter x) {
        PaperCutter y = withRuns(16);
        due(Checks.run(y, "1x0", 0, 1), REFUSED);
        each(what -> y.reason(what), 1, NOTHING, BAD);
        y.remove(0);
        due(Checks.run(y, "1x1", 0, 1), REFUSED);
        each(what -> y.reason(what), 2, NOTHING, BAD);
        y.addOrder(1, 10, 1, 0, 0, 0);
        due(Checks.run(y, "1x1", 0, 1), REFUSED);
        each(what -> y.reason(what), 3, NOTHING, BAD);
        due(Checks.run(y, "1x0", 0, 99), REFUSED);
        each(what -> y.reason(what), 6, NOTHING, BAD);
        due(Checks.execute(y, "all;all;cut 1"), REFUSED);
        each(what -> y.reason(what), NONE, 2, BAD);
        y.order(9, 9);
        due(Checks.execute(y, "arrange 1"), REFUSED);
        each(what -> y.reason(what), REFUSED, 0, BAD);
        PaperCutter z = withRuns(0);
        due(Checks.run(z, "9x0", 0, 1), REFUSED);
        due(z.reason(0), 4);
        order(z, 0, 10, 9);
        due(Checks.run(z, "9x1", 0, 1), REFUSED);
        due(z.reason(0), 5);
        due(Checks.run(z, "1x1", 0, 10), REFUSED);
        due(z.reason(0), 7);
    }

    private void keptLast(PaperCutter x) {
        due(Checks.execute(x, "all;cut 0"), REFUSED);
        each(what -> x.reason(what), NONE, 1);
        due(Checks.execute(x, "all"), 1);
        due(Checks.execute(x, "bad"), -1000);
        due(Checks.run(x, "1x0", 0, 1), NONE);
        x.addRoll(0, 50, 1);
        due(Checks.run(x, "1x0", 0, 0), BAD);
        due(Checks.run(x, "1x", 0, 1), -1002);
        due(x.cut(0), NOTHING);
        due(x.cut(9), NONE);
        due(x.arrange(9), BAD);
        each(what -> x.reason(what), NONE, 1);
        due(Checks.run(x, "1x0", 0, 1), REFUSED);
        each(what -> x.reason(what), 2, NOTHING);
        order(x, 0, 40, 9);
        due(Checks.run(x, "1x0", 0, 1), 0);
        each(what -> x.reason(what), 2, NOTHING);
    }

    private void noReason(PaperCutter x) {
        each(what -> x.reason(what), NOTHING, NOTHING, BAD);
        due(Checks.execute(x, "bad"), -1000);
        due(Checks.execute(x, "all"), 1);
        due(Checks.run(x, "1x0", 0, 1), NONE);
        due(x.cut(0), NONE);
        each(what -> x.reason(what), NOTHING, NOTHING, BAD);
    }

    private void noWhat(PaperCutter x) {
        due(x.reason(-1), BAD);
        due(x.reason(2), BAD);
        far(BAD, what -> x.reason(what));
        Checks.execute(x, "cut 0");
        due(x.reason(-1), BAD);
        due(x.reason(2), BAD);
        far(BAD, what -> x.reason(what));
        refused(BAD, Edges::typing, y -> y.reason(2));
    }

    private void stay(PaperCutter x) {
        x.save();
        x.addRoll(0, 50, 1);
        Checks.execute(x, "cut 7");
        x.undo();
        each(what -> x.reason(what), NONE, 0);
        x.restore();
        each(what -> x.reason(what), NONE, 0);
        PaperCutter y = withRuns(1);
        y.save();
        due(Checks.run(y, "1x9", 0, 1), REFUSED);
        y.undo();
        each(what -> y.reason(what), 2, NOTHING);
        y.restore();
        each(what -> y.reason(what), 2, NOTHING);
    }
}
