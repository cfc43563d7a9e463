/** The edges of promises 13 to 15 and 17 to 19: runs that are made by a text or cut, and what is asked of them. */
final class RunEdges extends Edges {
    private static final int MIN = Integer.MIN_VALUE;
    private static final int MAX = Integer.MAX_VALUE;

    RunEdges(Checks checks, Sentences sentences) {
        super(checks, sentences);
    }

    @Override
    void all() {
        runs();
        refusals();
        texts();
        cuts();
        cutsOfAll();
        numbers();
        positions();
        setups();
    }

    // ---- promise 13: the answers

    private void runs() {
        test(13, "There are at most 16 runs, numbered from 0 in the order in which they are made.", this::sixteenRuns);
        test(13, "A run has a roll, a possible pattern and a length of at least 1.", this::lengthOfOne);
        test(13, "NONE if there is no such roll", this::noRoll);
        test(13, "Reads the text as a pattern and makes a run of it.", this::makes);
        test(13, "Returns the number of the run; NONE if there is no such roll; BAD if the length is less than 1;"
            + " -1000 minus the fault position if the text is wrong; REFUSED, and its reason is kept.",
            this::firstError);
    }

    private void sixteenRuns(PaperCutter x) {
        x.addRoll(0, 200, 17);
        order(x, 0, 50, 99);
        for (int i = 0; i < 16; i++) {
            due("run " + i, Checks.run(x, "1x0", 0, 1), i);
        }
        due(Checks.run(x, "1x0", 0, 1), REFUSED);
        due(x.account(7), 16);
        due(x.made(15, 1), 1);
        due(x.made(16, 1), NONE);
        x.remove(0);
        due(Checks.run(x, "2x0", 0, 1), 15);
        due(x.made(15, 10), 2);
        due(x.made(0, 10), 1);
    }

    private void lengthOfOne(PaperCutter x) {
        PaperCutter y = withRuns(0);
        due(Checks.run(y, "1x0", 0, 0), BAD);
        due(Checks.run(y, "1x0", 0, -1), BAD);
        due(Checks.run(y, "1x0", 0, MIN), BAD);
        due(y.account(7), 0);
        due(Checks.run(y, "1x0", 0, 1), 0);
        for (int length : new int[] {0, -1, MIN}) {
            refusedText(BAD, Edges::busy, "1x0", z -> z.run(0, length));
        }
    }

    private void noRoll(PaperCutter x) {
        due(Checks.run(x, "1x0", 0, 1), NONE);
        PaperCutter y = withRolls(12);
        order(y, 0, 20, 99);
        due(Checks.run(y, "1x0", 12, 1), NONE);
        due(Checks.run(y, "1x0", -1, 1), NONE);
        for (int roll : FAR) {
            due("roll " + roll, Checks.run(y, "1x0", roll, 1), NONE);
            due(y.count(1), 0);
        }
        due(Checks.run(y, "1x0", 11, 1), 0);
        refusedText(NONE, Edges::busy, "1x0", z -> z.run(3, 1));
        refusedText(NONE, Edges::busy, "1x0", z -> z.run(-1, 1));
    }

    private void makes(PaperCutter x) {
        x.addRoll(0, 200, 9);
        order(x, 0, 50, 99);
        order(x, 0, 20, 99);
        due(Checks.run(x, "3x1+2x0", 0, 4), 0);
        each(what -> x.made(0, what), 0, 4, 5, 40, 6, 6, 160, NOTHING, 34, BAD, 2, 3, BAD);
        due(x.count(1), 0);
        due(x.count(0), 4);
    }

    private void firstError(PaperCutter x) {
        refusedText(NONE, Edges::busy, "x", y -> y.run(3, 0));
        refusedText(BAD, Edges::busy, "x", y -> y.run(0, 0));
        refusedText(-1000, Edges::busy, "x", y -> y.run(0, 999));
        refusedText(-1002, Edges::busy, "1x", y -> y.run(0, 1));
        refusedText(REFUSED, Edges::busy, "1x9", y -> y.run(0, 999));
        PaperCutter full = withRuns(16);
        due(Checks.run(full, "1x9+", 0, 1), -1004);
        due(full.reason(0), NOTHING);
        due(Checks.run(full, "1x9", 0, 1), REFUSED);
        due(full.reason(0), 1);
        due(full.reason(1), NOTHING);
    }

    // ---- promise 13: the reasons

    private void refusals() {
        test(13, "1, there are 16 runs", this::reasonRuns);
        test(13, "2, there is no such order", this::reasonOrder);
        test(13, "3, the roll cannot be used for an order that has strips", this::reasonGrade);
        test(13, "4, the rest is less than twice the edge", this::reasonRest);
        test(13, "5, the pattern needs too many knives", this::reasonKnives);
        test(13, "6, the length is greater than what is left of the roll", this::reasonLength);
        test(13, "7, more than the room would be made for an order.", this::reasonRoom);
        test(13, "A run is refused for the first of these reasons", this::firstReason);
    }

    private void taken(PaperCutter x, String pattern, int roll, int length) {
        int runs = x.account(7);
        due(pattern + " ", Checks.run(x, pattern, roll, length), runs);
    }

    private void refused(PaperCutter x, int reason, String pattern, int roll, int length) {
        int runs = x.account(7);
        int changes = x.count(0);
        due(pattern + " ", Checks.run(x, pattern, roll, length), REFUSED);
        due(pattern + " ", x.reason(0), reason);
        due(x.reason(1), NOTHING);
        due(x.count(1), 0);
        due(x.account(7), runs);
        due(x.count(0), changes);
    }

    /** A planner with all that a refusal might touch, and with a roll of the worst grade as its last one. */
    private static PaperCutter busyWithPoorRoll() {
        PaperCutter x = busy();
        x.addRoll(3, 100, 9);
        return x;
    }

    private void nothingBut(int reason, String pattern, int roll, int length) {
        refused(busyWithPoorRoll(), reason, pattern, roll, length);
        refusedText(REFUSED, RunEdges::busyWithPoorRoll, pattern, y -> y.run(roll, length));
    }

    private void reasonRuns(PaperCutter x) {
        taken(withRuns(15), "1x0", 0, 1);
        refused(withRuns(16), 1, "1x0", 0, 1);
        refusedText(REFUSED, () -> withRuns(16), "1x0", y -> y.run(0, 1));
    }

    private void reasonOrder(PaperCutter x) {
        x.addRoll(0, 100, 9);
        refused(x, 2, "1x0", 0, 1);
        order(x, 0, 10, 9);
        taken(x, "1x0", 0, 1);
        refused(x, 2, "1x1", 0, 1);
        for (int o = 1; o < 8; o++) {
            order(x, 0, 10, 9);
        }
        taken(x, "1x7", 0, 1);
        refused(x, 2, "1x8", 0, 1);
        refused(x, 2, "1x0+1x9", 0, 1);
        nothingBut(2, "1x2", 0, 1);
    }

    private void reasonGrade(PaperCutter x) {
        for (int roll = 0; roll < 4; roll++) {
            for (int of = 0; of < 4; of++) {
                PaperCutter y = new PaperCutter();
                y.addRoll(roll, 100, 9);
                y.addOrder(of, 10, 9, 0, 0, 0);
                y.addOrder(of, 10, 9, 0, 0, 1);
                if (roll == of) {
                    taken(y, "1x0+1x1", 0, 1);
                } else if (roll < of) {
                    taken(y, "1x1", 0, 1);
                    refused(y, 3, "1x1+1x0", 0, 1);
                } else {
                    refused(y, 3, "1x1", 0, 1);
                    refused(y, 3, "1x0", 0, 1);
                }
            }
        }
        nothingBut(3, "1x0", 3, 1);
    }

    private void reasonRest(PaperCutter x) {
        for (int edge = 0; edge <= 20; edge++) {
            PaperCutter y = new PaperCutter();
            y.set(1, edge);
            order(y, 0, 50, 99);
            y.addRoll(0, 100 + 2 * edge, 9);
            y.addRoll(0, 99 + 2 * edge, 9);
            taken(y, "2x0", 0, 1);
            due(y.made(0, 3), 2 * edge);
            refused(y, 4, "2x0", 1, 1);
            refused(y, 4, "9x0+9x0+9x0", 0, 1);
        }
        nothingBut(4, "4x0", 0, 1);
    }

    private void reasonKnives(PaperCutter x) {
        for (int knives = 2; knives <= 7; knives++) {
            PaperCutter y = new PaperCutter();
            y.set(0, knives);
            y.set(1, 0);
            y.addRoll(0, 10 * knives + 50, 9);
            order(y, 0, 10, 99);
            taken(y, knives - 1 + "x0", 0, 1);
            refused(y, 5, knives + "x0", 0, 1);
        }
        for (int knives = 4; knives <= 7; knives++) {
            PaperCutter y = new PaperCutter();
            y.set(0, knives);
            y.set(1, 0);
            y.addRoll(0, 10 * (knives + 1), 9);
            y.addRoll(0, 10 * (knives + 2), 9);
            order(y, 0, 10, 99);
            taken(y, knives + 1 + "x0", 0, 1);
            due(y.made(0, 4), knives);
            refused(y, 5, knives + "x0", 0, 1);
            refused(y, 5, knives + 2 + "x0", 1, 1);
        }
        nothingBut(5, "6x1", 0, 1);
    }

    private void reasonLength(PaperCutter x) {
        x.addRoll(0, 100, 9);
        x.addRoll(0, 100, 9);
        order(x, 0, 10, 99);
        refused(x, 6, "1x0", 0, 10);
        refused(x, 6, "1x0", 0, 65536);
        refused(x, 6, "1x0", 0, MAX);
        refused(x, 6, "2x0", 0, MAX / 2 + 1);
        taken(x, "1x0", 0, 7);
        refused(x, 6, "1x0", 0, 3);
        taken(x, "1x0", 0, 2);
        refused(x, 6, "1x0", 0, 1);
        taken(x, "1x0", 1, 9);
        nothingBut(6, "1x0", 0, 79);
        nothingBut(6, "1x0", 0, MAX);
    }

    private void reasonRoom(PaperCutter x) {
        x.addRoll(0, 200, 999);
        x.addOrder(0, 10, 10, 20, 0, 0);
        order(x, 0, 10, 99);
        refused(x, 7, "1x0", 0, 13);
        refused(x, 7, "2x0", 0, 7);
        refused(x, 7, "1x0+3x1+1x0", 0, 7);
        refused(x, 7, "1x0", 0, 999);
        taken(x, "2x0", 0, 5);
        refused(x, 7, "2x0", 0, 2);
        refused(x, 7, "3x0", 0, 1);
        taken(x, "2x0", 0, 1);
        refused(x, 7, "1x0", 0, 1);
        refused(x, 7, "1x1+1x0", 0, 1);
        taken(x, "3x1", 0, 33);
        refused(x, 7, "1x1", 0, 1);
        x.addOrder(0, 10, 10, 20, 0, 0);
        taken(x, "1x2", 0, 12);
        nothingBut(7, "1x0", 0, 47);
        taken(busyWithPoorRoll(), "1x0", 0, 46);
    }

    /** A planner in which each of the reasons 2 to 7 can be brought about alone, and the reason 1 with them. */
    private static PaperCutter forReasons(int runs) {
        PaperCutter x = new PaperCutter();
        x.set(0, 7);
        x.addRoll(1, 200, 10 + runs);
        order(x, 1, 30, 999);
        order(x, 1, 30, 1);
        order(x, 0, 10, 999);
        order(x, 1, 150, 999);
        order(x, 1, 10, 999);
        for (int i = 0; i < runs; i++) {
            Checks.run(x, "1x0", 0, 1);
        }
        return x;
    }

    private void firstReason(PaperCutter x) {
        String[] parts = {"", "", "+1x9", "+1x2", "+2x3", "+7x4", "", "+2x1"};
        for (int set = 0; set < 128; set++) {
            boolean full = (set & 1) != 0;
            StringBuilder pattern = new StringBuilder("1x0");
            int first = full ? 1 : 0;
            for (int reason = 2; reason <= 7; reason++) {
                if ((set & 1 << (reason - 1)) != 0) {
                    pattern.append(parts[reason]);
                    first = first == 0 ? reason : first;
                }
            }
            PaperCutter y = forReasons(full ? 16 : 0);
            int length = (set & 1 << 5) != 0 ? 11 : 1;
            due(pattern + " ", Checks.run(y, pattern.toString(), 0, length), first == 0 ? 0 : REFUSED);
            due("reason of " + pattern + " ", y.reason(0), first == 0 ? NOTHING : first);
        }
    }

    // ---- promise 13: the texts

    private void texts() {
        test(13, "strips is one digit from 1 to 9, order one digit.", this::digits);
        test(13, "A pattern is written as strips \"x\" order with \"+\" between them, as in 2x0+1x3", this::signs);
        test(13, "Its fault position is found in the same way.", this::endsTooEarly);
        test(13, "The same order can come several times; its strips are added up then.", this::addedUp);
        test(13, "an empty text is wrong at 0.", this::emptyText);
        test(13, "The text is empty behind run and execute whatever they return", this::emptied);
    }

    private void fault(String text, int position) {
        PaperCutter x = withRuns(0);
        due("\"" + text + "\" ", Checks.run(x, text, 0, 1), -1000 - position);
        due(x.count(1), 0);
        due(x.reason(0), NOTHING);
        due(x.account(7), 0);
    }

    private void digits(PaperCutter x) {
        PaperCutter y = withRuns(0);
        taken(y, "1x0", 0, 1);
        refused(y, 4, "9x0", 0, 1);
        refused(y, 2, "1x9", 0, 1);
        fault("0x0", 0);
        fault("/x0", 0);
        fault(":x0", 0);
        fault("1x/", 2);
        fault("1x:", 2);
        fault("10x0", 1);
        fault("11x0", 1);
        fault("1x00", 3);
        fault("1x10", 3);
        fault("1x0+0x0", 4);
        fault("1x0+1x0+1xa", 10);
        fault("-1x0", 0);
    }

    private void signs(PaperCutter x) {
        PaperCutter y = withRuns(0);
        order(y, 0, 10, 9);
        order(y, 0, 10, 9);
        order(y, 0, 10, 9);
        taken(y, "2x0+1x3", 0, 1);
        fault("x", 0);
        fault("+1x0", 0);
        fault(" 1x0", 0);
        fault("1 x0", 1);
        fault("1X0", 1);
        fault("1w0", 1);
        fault("1y0", 1);
        fault("1xx", 2);
        fault("1x 0", 2);
        fault("1x0 ", 3);
        fault("1x0;1x0", 3);
        fault("1x0*1x0", 3);
        fault("1x0,1x0", 3);
        fault("1x01x0", 3);
        fault("1x0++1x0", 4);
        fault("1x0x", 3);
        fault("cut 0", 0);
    }

    private void endsTooEarly(PaperCutter x) {
        fault("1", 1);
        fault("1x", 2);
        fault("1x0+", 4);
        fault("1x0+1", 5);
        fault("1x0+1x", 6);
        String nineteen = "1x0" + "+1x0".repeat(18);
        fault(nineteen + "+1x", 78);
        fault(nineteen + "+1x0+", 80);
        fault(nineteen + "+1x0x", 79);
        refused(withRuns(0), 4, nineteen + "+1x0", 0, 1);
    }

    private void addedUp(PaperCutter x) {
        PaperCutter y = withRuns(0);
        order(y, 0, 10, 9);
        taken(y, "1x0+1x1+1x0+2x1", 0, 1);
        due(y.made(0, 10), 2);
        due(y.made(0, 11), 3);
        due(y.order(0, 8), 2);
        refused(y, 4, "1x0+1x0+1x0+1x0", 0, 1);
        refused(y, 5, "1x1+1x1+1x1+1x1+1x1+1x1", 0, 1);
        refused(y, 7, "1x1+1x1+1x1+1x1", 0, 2);
        refused(y, 4, "9x1" + "+9x1".repeat(19), 0, 1);
    }

    private void emptyText(PaperCutter x) {
        fault("", 0);
        refusedText(-1000, Edges::busy, "", y -> y.run(0, 1));
        due(withRuns(16).run(0, 1), -1000);
    }

    private void emptied(PaperCutter x) {
        PaperCutter y = withRuns(0);
        taken(y, "1x0", 0, 1);
        due(y.count(1), 0);
        due(y.run(0, 1), -1000);
        for (int roll = -1; roll <= 1; roll++) {
            for (int length : new int[] {0, 1, 999}) {
                for (String text : new String[] {"1x0", "1x", "9x0", "1x1"}) {
                    Checks.run(y, text, roll, length);
                    due(text + " ", y.count(1), 0);
                }
            }
        }
    }

    // ---- promise 14

    private void cuts() {
        test(14, "Cuts a roll.", this::cutsBest);
        test(14, "To cut a roll means to make a run of its best pattern, with the greatest length that is not greater"
            + " than what is left of the roll, and with which no more than the room is made for each order.",
            this::cutsAllThatIsLeft);
        test(14, "FULL if there are 16 runs", this::cutFull);
        test(14, "NOTHING if there is no best pattern.", this::cutNothing);
        test(14, "Returns the number of the run; NONE if there is no such roll; FULL if there are 16 runs; NOTHING if"
            + " there is no best pattern.", this::cutNone);
    }

    private void cutsBest(PaperCutter x) {
        x.addRoll(0, 106, 9);
        x.addRoll(0, 206, 9);
        order(x, 0, 100, 5);
        due(x.cut(1), 0);
        each(what -> x.made(0, what), 1, 2, 2, 6, 3, 3, 12, NOTHING, 0, BAD, 2);
        due(x.cut(1), 1);
        each(what -> x.made(1, what), 1, 1, 1, 106, 2, 0, 106, NOTHING, 100, BAD, 1);
        due(x.cut(0), NOTHING);
    }

    private void cutsAllThatIsLeft(PaperCutter x) {
        x.addRoll(0, 106, 999);
        order(x, 0, 50, 999);
        Checks.run(x, "1x0", 0, 1);
        due(x.cut(0), 1);
        due(x.made(1, 1), 499);
        due(x.order(0, 9), 0);
        PaperCutter y = withRuns(0);
        Checks.run(y, "1x0", 0, 199);
        due(y.cut(0), 1);
        due(y.made(1, 1), 1);
        due(y.roll(0, 3), 0);
    }

    private void cutFull(PaperCutter x) {
        PaperCutter y = withRuns(15);
        due(y.cut(0), 15);
        due(withRuns(16).cut(0), FULL);
        refused(FULL, () -> withRuns(16), z -> z.cut(0));
        y.undo();
        due(y.account(7), 15);
        due(y.cut(0), 15);
    }

    private void cutNothing(PaperCutter x) {
        x.addRoll(0, 55, 1);
        due(x.cut(0), NOTHING);
        order(x, 0, 50, 9);
        due(x.cut(0), NOTHING);
        x.addRoll(0, 56, 1);
        due(x.cut(1), 0);
        due(x.cut(1), NOTHING);
        refused(NOTHING, () -> withRolls(3), y -> y.cut(0));
        refused(NOTHING, RunEdges::tooNarrow, y -> y.cut(0));
    }

    private static PaperCutter tooNarrow() {
        PaperCutter x = new PaperCutter();
        x.addRoll(0, 55, 1);
        order(x, 0, 50, 9);
        return x;
    }

    private void cutNone(PaperCutter x) {
        due(x.cut(0), NONE);
        PaperCutter y = withRuns(16);
        due(y.cut(1), NONE);
        due(y.cut(-1), NONE);
        far(NONE, roll -> y.cut(roll));
        y.addRoll(3, 50, 1);
        due(y.cut(1), FULL);
        due(withRolls(12).cut(11), NOTHING);
        due(withRolls(12).cut(12), NONE);
        refused(NONE, Edges::typing, z -> z.cut(3));
        refused(NONE, Edges::typing, z -> z.cut(-1));
    }

    // ---- promise 15

    private void cutsOfAll() {
        test(15, "as long as there are fewer than 16 runs and some roll has a best pattern", this::untilSixteen);
        test(15, "the roll whose best pattern has the least rest is cut, of several the narrowest one, of several of"
            + " these the one with the lowest number.", this::whichRoll);
        test(15, "Cuts all.", this::cutsEach);
        test(15, "Returns the number of runs made, possibly 0.", this::noneMade);
    }

    /** Twelve rolls that give a run each, and some runs ahead of them. */
    private static PaperCutter forAll(int runs) {
        PaperCutter x = new PaperCutter();
        x.addRoll(0, 106, 1 + runs);
        for (int i = 1; i < 12; i++) {
            x.addRoll(0, 106, 1);
        }
        order(x, 0, 50, 999);
        for (int i = 0; i < runs; i++) {
            Checks.run(x, "1x0", 0, 1);
        }
        return x;
    }

    private void untilSixteen(PaperCutter x) {
        int[] dues = {12, 12, 12, 12, 12, 11, 10, 9, 8, 7, 6, 5, 4, 3, 2, 1, 0};
        for (int runs = 0; runs <= 16; runs++) {
            PaperCutter y = forAll(runs);
            due("forecast with " + runs + " runs", y.ifAll(0), dues[runs]);
            due("with " + runs + " runs", y.cutAll(), dues[runs]);
            due("with " + runs + " runs", y.account(7), runs + dues[runs]);
        }
    }

    private void whichRoll(PaperCutter x) {
        x.addRoll(0, 159, 1);
        x.addRoll(0, 158, 1);
        x.addRoll(0, 108, 1);
        x.addRoll(0, 107, 1);
        x.addRoll(0, 57, 1);
        x.addRoll(0, 107, 1);
        x.addRoll(0, 57, 1);
        x.addRoll(0, 109, 1);
        x.addRoll(0, 56, 1);
        x.addRoll(0, 108, 1);
        order(x, 0, 50, 99);
        due(x.cutAll(), 10);
        int[] rolls = {8, 4, 6, 3, 5, 2, 9, 1, 7, 0};
        for (int run = 0; run < 10; run++) {
            due("roll of run " + run, x.made(run, 0), rolls[run]);
        }
    }

    private void cutsEach(PaperCutter x) {
        x.addRoll(0, 106, 2);
        x.addRoll(0, 106, 2);
        order(x, 0, 50, 5);
        due(x.cutAll(), 2);
        due(x.made(0, 1), 2);
        due(x.made(0, 10), 2);
        due(x.made(1, 0), 1);
        due(x.made(1, 1), 1);
        due(x.made(1, 10), 1);
        due(x.roll(1, 3), 1);
        due(x.count(0), 4);
        x.undo();
        due(x.account(7), 0);
    }

    private void noneMade(PaperCutter x) {
        due(x.cutAll(), 0);
        due(x.count(0), 1);
        PaperCutter y = withRuns(16);
        int changes = y.count(0);
        due(y.cutAll(), 0);
        due(y.undo(), changes - 1);
        due(y.account(7), 16);
        due(withRolls(12).cutAll(), 0);
        due(withOrders(8).cutAll(), 0);
        x.addRoll(0, 50, 1);
        order(x, 0, 45, 1);
        due(x.cutAll(), 0);
        order(x, 0, 44, 1);
        due(x.cutAll(), 1);
        due(x.cutAll(), 0);
    }

    // ---- promise 17

    private void numbers() {
        test(17, "`what`: 0 its roll; 1 its length; 2 the number of its strips; 3 its rest; 4 the number of its"
            + " positions; 5 its setup; 6 its waste; 7 the roll that its remnant became, or NOTHING; 8 the width of"
            + " its remnant; 10 + o the number of strips for order o", this::eachNumber);
        test(17, "The remnant of a run is as wide as its rest less twice the edge with which the run was made, and as"
            + " long as the run.", this::remnants);
        test(17, "The waste of a run is its length times its rest, less the area of its remnant if this is kept.",
            this::waste);
        test(17, "Returns a number of a run.", this::lastRun);
        test(17, "NONE if there is no such run; BAD if there is no such what or no such order.", this::noNumber);
    }

    private void eachNumber(PaperCutter x) {
        x.addRoll(0, 200, 99);
        x.addRoll(0, 100, 99);
        for (int o = 0; o < 8; o++) {
            order(x, 0, 10, 99);
        }
        Checks.run(x, "2x0", 0, 3);
        Checks.run(x, "1x7+2x0", 1, 4);
        x.keep(1);
        each(what -> x.made(0, what), 0, 3, 2, 180, 3, 3, 540, NOTHING, 174, BAD, 2, 0, 0, 0, 0, 0, 0, 0, BAD, BAD);
        each(what -> x.made(1, what), 1, 4, 3, 70, 4, 1, 24, 2, 64, BAD, 2, 0, 0, 0, 0, 0, 0, 1, BAD, BAD);
    }

    private void remnants(PaperCutter x) {
        order(x, 0, 50, 99);
        x.addRoll(0, 106, 9);
        Checks.run(x, "2x0", 0, 2);
        due(x.made(0, 8), 0);
        x.set(1, 0);
        Checks.run(x, "2x0", 0, 2);
        due(x.made(1, 8), 6);
        x.addRoll(0, 100, 9);
        Checks.run(x, "2x0", 1, 2);
        due(x.made(2, 3), 0);
        due(x.made(2, 8), 0);
        x.set(1, 20);
        Checks.run(x, "1x0", 1, 7);
        due(x.made(3, 8), 10);
        due(x.made(1, 8), 6);
        x.set(2, 10);
        due(x.keep(3), 2);
        due(x.roll(2, 2), 7);
    }

    private void waste(PaperCutter x) {
        x.set(1, 0);
        order(x, 0, 50, 99);
        x.addRoll(0, 100, 9);
        Checks.run(x, "2x0", 0, 2);
        due(x.made(0, 6), 0);
        Checks.run(x, "1x0", 0, 2);
        due(x.made(1, 6), 100);
        x.keep(1);
        due(x.made(1, 6), 0);
        x.set(1, 3);
        Checks.run(x, "1x0", 0, 2);
        due(x.made(2, 6), 100);
        x.keep(2);
        due(x.made(2, 6), 12);
        due(x.account(2), 12);
    }

    private void lastRun(PaperCutter x) {
        PaperCutter y = withRuns(16);
        for (int run = 0; run < 16; run++) {
            due("run " + run, y.made(run, 1), run + 1);
        }
        due(y.made(16, 1), NONE);
    }

    private void noNumber(PaperCutter x) {
        due(x.made(0, 0), NONE);
        PaperCutter y = withRuns(16);
        due(y.made(-1, 0), NONE);
        due(y.made(16, 0), NONE);
        due(y.made(16, 9), NONE);
        due(y.made(-1, -1), NONE);
        far(NONE, run -> y.made(run, 0));
        due(y.made(15, -1), BAD);
        due(y.made(15, 9), BAD);
        due(y.made(15, 10), 1);
        due(y.made(15, 11), BAD);
        far(BAD, what -> y.made(15, what));
        refused(NONE, Edges::typing, z -> z.made(3, 0));
        refused(BAD, Edges::typing, z -> z.made(0, 9));
        refused(BAD, Edges::typing, z -> z.made(0, 12));
    }

    // ---- promise 18

    private void positions() {
        test(18, "The strips of a run lie side by side from the left, in ascending order of their orders, behind the"
            + " edge, or from 0 on if the rest is 0.", this::sideBySide);
        test(18, "The positions of its knives are the places at which strips begin and end, in units of width from"
            + " the left edge of the roll, apart from both edges of the roll if the rest is 0.", this::knives);
        test(18, "A run with the edge 0 and a rest above 0 has the position 0.", this::positionZero);
        test(18, "`k`: its number, in ascending order, from 0", this::eachPosition);
        test(18, "Returns the position; NONE if there is no such run or position.", this::noPosition);
        test(18, "Returns a position of a run.", this::wholeRoll);
    }

    private void places(PaperCutter x, int run, String due) {
        same(Checks.positions(x, run), due);
        due(x.made(run, 4), due.isEmpty() ? 0 : due.split(" ").length);
    }

    private void sideBySide(PaperCutter x) {
        x.addRoll(0, 200, 9);
        order(x, 0, 50, 99);
        order(x, 0, 10, 99);
        order(x, 0, 30, 99);
        Checks.run(x, "1x2+1x1+2x0", 0, 1);
        places(x, 0, "3 53 103 113 143");
        x.set(1, 20);
        Checks.run(x, "1x2+1x1+2x0", 0, 1);
        places(x, 1, "20 70 120 130 160");
        x.addRoll(0, 60, 9);
        x.set(1, 0);
        Checks.run(x, "1x1+1x0", 1, 1);
        places(x, 2, "50");
    }

    private void knives(PaperCutter x) {
        x.set(0, 7);
        x.set(1, 0);
        x.addRoll(0, 80, 9);
        x.addRoll(0, 300, 9);
        order(x, 0, 10, 99);
        order(x, 0, 50, 99);
        Checks.run(x, "8x0", 0, 1);
        places(x, 0, "10 20 30 40 50 60 70");
        Checks.run(x, "6x0", 0, 1);
        places(x, 1, "0 10 20 30 40 50 60");
        Checks.run(x, "6x1", 1, 1);
        places(x, 2, "50 100 150 200 250");
        x.set(1, 1);
        Checks.run(x, "5x1", 1, 1);
        places(x, 3, "1 51 101 151 201 251");
    }

    private void positionZero(PaperCutter x) {
        x.set(1, 0);
        x.addRoll(0, 51, 9);
        order(x, 0, 50, 99);
        Checks.run(x, "1x0", 0, 1);
        places(x, 0, "0 50");
        x.set(1, 3);
        x.addRoll(0, 56, 9);
        Checks.run(x, "1x0", 1, 1);
        places(x, 1, "3 53");
    }

    private void eachPosition(PaperCutter x) {
        x.addRoll(0, 200, 9);
        order(x, 0, 30, 99);
        Checks.run(x, "5x0", 0, 1);
        each(k -> x.position(0, k), 3, 33, 63, 93, 123, 153, NONE, NONE, NONE, NONE);
    }

    private void noPosition(PaperCutter x) {
        due(x.position(0, 0), NONE);
        PaperCutter y = withRuns(16);
        due(y.position(15, 1), 53);
        due(y.position(15, 2), NONE);
        due(y.position(15, -1), NONE);
        due(y.position(16, 0), NONE);
        due(y.position(-1, 0), NONE);
        far(NONE, run -> y.position(run, 0));
        far(NONE, k -> y.position(0, k));
        refused(NONE, Edges::typing, z -> z.position(0, 3));
        refused(NONE, Edges::typing, z -> z.position(3, 0));
    }

    private void wholeRoll(PaperCutter x) {
        x.set(1, 0);
        x.addRoll(0, 50, 9);
        order(x, 0, 50, 99);
        Checks.run(x, "1x0", 0, 1);
        places(x, 0, "");
        due(x.position(0, 0), NONE);
    }

    // ---- promise 19

    private void setups() {
        test(19, "The setup of a run is the number of its positions which the run before it does not have, plus 5 if"
            + " the rolls of both have different grades", this::beyond);
        test(19, "for run 0 it is the number of its positions.", this::firstSetup);
        test(19, "`before`: the run before it, or -1 for none", this::noneBefore);
        test(19, "Returns the setup; NONE if there is no such run, or both are the same.", this::noSetup);
        test(19, "Returns the setup that a run would have behind another one.", this::wouldHave);
    }

    /** Runs with the positions 3 53; 3 53 103; nothing; and 3 53 on a roll of another grade. */
    private static PaperCutter forSetups() {
        PaperCutter x = new PaperCutter();
        x.addRoll(0, 150, 9);
        x.addRoll(0, 50, 9);
        x.addRoll(3, 150, 9);
        x.addOrder(0, 50, 99, 0, 0, 0);
        x.addOrder(3, 50, 99, 0, 0, 0);
        Checks.run(x, "1x0", 0, 1);
        Checks.run(x, "2x0", 0, 1);
        x.set(1, 0);
        Checks.run(x, "1x0", 1, 1);
        x.set(1, 3);
        Checks.run(x, "1x1", 2, 1);
        return x;
    }

    private void beyond(PaperCutter x) {
        int[][] dues = {{NONE, 0, 2, 5}, {1, NONE, 3, 6}, {0, 0, NONE, 5}, {5, 5, 7, NONE}};
        PaperCutter y = forSetups();
        for (int run = 0; run < 4; run++) {
            int of = run;
            each(before -> y.setup(of, before), dues[run]);
        }
        each(run -> y.made(run, 5), 2, 1, 0, 7);
    }

    private void firstSetup(PaperCutter x) {
        PaperCutter y = forSetups();
        due(y.made(0, 5), 2);
        y.swap(0, 2);
        due(y.made(0, 5), 0);
        y.swap(0, 3);
        due(y.made(0, 5), 2);
        y.swap(0, 1);
        due(y.made(0, 5), 3);
    }

    private void noneBefore(PaperCutter x) {
        PaperCutter y = forSetups();
        each(run -> y.setup(run, -1), 2, 3, 0, 2, NONE);
        due(y.setup(0, -2), NONE);
        due(y.setup(-1, -1), NONE);
    }

    private void noSetup(PaperCutter x) {
        due(x.setup(0, -1), NONE);
        due(x.setup(0, 0), NONE);
        PaperCutter y = withRuns(16);
        due(y.setup(15, 14), 0);
        due(y.setup(15, 15), NONE);
        due(y.setup(0, 0), NONE);
        due(y.setup(16, 0), NONE);
        due(y.setup(0, 16), NONE);
        due(y.setup(16, -1), NONE);
        due(y.setup(-1, 0), NONE);
        due(y.setup(0, -2), NONE);
        far(NONE, run -> y.setup(run, 0));
        far(NONE, run -> y.setup(run, run));
        far(NONE, before -> y.setup(0, before));
        refused(NONE, Edges::typing, z -> z.setup(3, 0));
        refused(NONE, Edges::typing, z -> z.setup(1, 1));
    }

    private void wouldHave(PaperCutter x) {
        PaperCutter with = forSetups();
        due(with.setup(0, 3), 5);
        due(with.setup(1, 0), 1);
        same(Look.stock(with), Look.stock(forSetups()));
        same(Look.past(with), Look.past(forSetups()));
    }
}
