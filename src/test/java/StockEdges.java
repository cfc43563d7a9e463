/** The edges of promises 1 to 9: settings, orders, rolls, the ranking, explanations and the text's characters. */
final class StockEdges extends Edges {
    private static final int MIN = Integer.MIN_VALUE;
    private static final int MAX = Integer.MAX_VALUE;

    StockEdges(Checks checks, Sentences sentences) {
        super(checks, sentences);
    }

    @Override
    void all() {
        begin();
        settings();
        orders();
        rolls();
        numbersOfOrders();
        numbersOfRolls();
        ranking();
        explanations();
        characters();
    }

    // ---- promise 1

    private void begin() {
        test(1, "Creates a planner without orders, rolls and runs.", this::empty);
        test(1, "An object is used for at most 512 calls after it has been made", this::lastCall);
        test(1, "at first 6;", x -> due(x.count(2), 6));
        test(1, "at first 3;", x -> due(x.count(3), 3));
        test(1, "at first 20.", x -> due(x.count(4), 20));
        test(1, "`NONE = -1`: There is no such order, roll, run, or position.", this::noneOfAll);
        test(1, "`BAD = -2`: A number is out of range.", x -> due(x.set(0, 1), PaperCutter.BAD));
        test(1, "`FULL = -3`: There is no room.",
            x -> due(withOrders(8).addOrder(0, 10, 1, 0, 0, 0), PaperCutter.FULL));
        test(1, "`REFUSED = -4`: It cannot be done.", x -> due(Checks.execute(x, "cut 0"), PaperCutter.REFUSED));
        test(1, "`NOTHING = -5`: There is nothing of this kind.", x -> due(x.undo(), PaperCutter.NOTHING));
    }

    private void empty(PaperCutter x) {
        busy();
        each(what -> x.account(what), 0, 0, 0, 0, 0, 0, 0, 0, 0, 0);
        each(what -> x.ifAll(what), 0, 0, 0, 0, 0);
        for (int what = 0; what < 18; what++) {
            due("order(0, " + what + ")", x.order(0, what), NONE);
            due("roll(0, " + what + ")", x.roll(0, what), NONE);
            due("made(0, " + what + ")", x.made(0, what), NONE);
        }
        for (int grade = 0; grade < 4; grade++) {
            int of = grade;
            each(what -> x.grade(of, what), 0, 0, 0, 0, 0, 0);
        }
        each(what -> x.count(what), 0, 0, 6, 3, 20);
    }

    private void lastCall(PaperCutter x) {
        for (int call = 1; call <= 511; call++) {
            due("call " + call, x.set(2, 10 + call % 90), call == 1 ? 20 : 10 + (call - 1) % 90);
        }
        due("call 512", x.set(2, 33), 10 + 511 % 90);
    }

    private void noneOfAll(PaperCutter x) {
        due(x.order(0, 0), PaperCutter.NONE);
        due(x.roll(0, 0), PaperCutter.NONE);
        due(x.made(0, 0), PaperCutter.NONE);
        PaperCutter y = withRuns(1);
        due(y.position(0, 2), PaperCutter.NONE);
        due(y.position(0, 1), 53);
    }

    // ---- promise 2

    private void settings() {
        test(2, "0, the number of knives, from 2 to 7, at first 6", x -> settingRange(x, 0, 2, 7, 6));
        test(2, "1, the edge, from 0 to 20, at first 3", x -> settingRange(x, 1, 0, 20, 3));
        test(2, "2, the least width of a remnant, from 10 to 99, at first 20", x -> settingRange(x, 2, 10, 99, 20));
        test(2, "BAD if there is no such setting or the value is out of range.", this::noSetting);
        test(2, "Sets a setting.", this::setsOneAlone);
        test(2, "Returns the previous value", this::previous);
        test(2, "Runs that were made keep their patterns, positions and remnants when settings change.",
            this::runsStay);
    }

    private void settingRange(PaperCutter x, int what, int low, int high, int first) {
        for (int wrong : new int[] {low - 1, high + 1, -low - 1, MIN, MAX, 65536 + low, 256 + high}) {
            due("set to " + wrong, x.set(what, wrong), BAD);
            refused(BAD, Edges::typing, y -> y.set(what, wrong));
        }
        due(x.count(2 + what), first);
        due(x.set(what, low), first);
        due(x.count(2 + what), low);
        due(x.set(what, low - 1), BAD);
        due(x.count(2 + what), low);
        due(x.set(what, high), low);
        due(x.count(2 + what), high);
        due(x.set(what, high + 1), BAD);
        due(x.count(2 + what), high);
        due(x.count(0), 2);
    }

    private void noSetting(PaperCutter x) {
        for (int v : new int[] {5, 15, 50}) {
            due(x.set(-1, v), BAD);
            due(x.set(3, v), BAD);
            far(BAD, what -> x.set(what, v));
        }
        due(x.set(-1, 1000), BAD);
        each(what -> x.count(what), 0, 0, 6, 3, 20);
        refused(BAD, Edges::typing, y -> y.set(3, 15));
        refused(BAD, Edges::typing, y -> y.set(-1, 15));
    }

    private void setsOneAlone(PaperCutter x) {
        x.set(0, 4);
        each(what -> x.count(what), 1, 0, 4, 3, 20);
        x.set(1, 0);
        each(what -> x.count(what), 2, 0, 4, 0, 20);
        x.set(2, 10);
        each(what -> x.count(what), 3, 0, 4, 0, 10);
    }

    private void previous(PaperCutter x) {
        due(x.set(1, 0), 3);
        due(x.set(1, 20), 0);
        due(x.set(1, 20), 20);
        due(x.set(1, 21), BAD);
        due(x.set(1, 7), 20);
    }

    private void runsStay(PaperCutter x) {
        x.addRoll(0, 200, 90);
        order(x, 0, 30, 99);
        Checks.run(x, "5x0", 0, 2);
        Checks.run(x, "4x0", 0, 3);
        due(x.keep(0), 1);
        String before = Look.stock(x).replaceFirst("settings [0-9 ]+", "");
        x.set(0, 2);
        x.set(1, 20);
        x.set(2, 99);
        same(Look.stock(x).replaceFirst("settings [0-9 ]+", ""), before);
        same(Checks.positions(x, 0), "3 33 63 93 123 153");
        due(x.made(1, 8), 74);
        due(x.roll(1, 1), 44);
        x.set(1, 0);
        due(x.split(1, 1), 2);
        due(x.made(2, 8), 74);
        due(x.position(2, 0), 3);
        x.set(2, 74);
        due(x.keep(2), 2);
        due(x.roll(2, 1), 74);
        due(x.made(2, 6), 2 * 6);
    }

    // ---- promise 3

    private void orders() {
        test(3, "An order has a grade from 0 to 3", x -> orderRange(x, 0, 0, 3));
        test(3, "a width from 10 to 150", x -> orderRange(x, 1, 10, 150));
        test(3, "an amount from 1 to 999", x -> orderRange(x, 2, 1, 999));
        test(3, "a tolerance from 0 to 50", x -> orderRange(x, 3, 0, 50));
        test(3, "a due date from 0 to 99", x -> orderRange(x, 4, 0, 99));
        test(3, "`better`: 1 if it accepts better grades, otherwise 0", x -> orderRange(x, 5, 0, 1));
        test(3, "Adds an order.", this::addsOrder);
        test(3, "There are at most 8 orders, numbered from 0 in the order in which they were added.",
            this::eightOrders);
        test(3, "Returns its number; BAD if a number is out of range; FULL if there are 8 orders.",
            this::badAheadOfFull);
    }

    private static int addOrder(PaperCutter x, int[] n) {
        return x.addOrder(n[0], n[1], n[2], n[3], n[4], n[5]);
    }

    private static int[] orderWith(int place, int v) {
        int[] n = {1, 50, 100, 10, 5, 0};
        n[place] = v;
        return n;
    }

    private void orderRange(PaperCutter x, int place, int low, int high) {
        for (int wrong : new int[] {low - 1, high + 1, -high - 1, MIN, MAX, 65536 + low, 256 + high}) {
            due("with " + wrong, addOrder(x, orderWith(place, wrong)), BAD);
            refused(BAD, Edges::typing, y -> addOrder(y, orderWith(place, wrong)));
        }
        due(x.account(9), 0);
        due(x.count(0), 0);
        due(addOrder(x, orderWith(place, low)), 0);
        due(x.order(0, place), low);
        due(addOrder(x, orderWith(place, high)), 1);
        due(x.order(1, place), high);
        each(what -> what == place ? high : x.order(1, what), orderWith(place, high));
        due(x.account(9), 2);
    }

    private void addsOrder(PaperCutter x) {
        due(x.addOrder(0, 10, 1, 0, 0, 0), 0);
        each(what -> x.order(0, what), 0, 10, 1, 0, 0, 0, 1, 1, 0, 1, 0, 0);
        due(x.addOrder(3, 150, 999, 50, 99, 1), 1);
        each(what -> x.order(1, what), 3, 150, 999, 50, 99, 1, 500, 1498, 0, 1498, 0, 0);
    }

    private void eightOrders(PaperCutter x) {
        for (int i = 0; i < 8; i++) {
            due("order " + i, order(x, 0, 10 + i, 1 + i), i);
        }
        due(order(x, 0, 10, 1), FULL);
        due(x.account(9), 8);
        for (int i = 0; i < 8; i++) {
            due("width of " + i, x.order(i, 1), 10 + i);
        }
        refused(FULL, () -> withOrders(8), y -> order(y, 0, 10, 1));
        x.undo();
        due(x.account(9), 7);
        due(order(x, 0, 99, 1), 7);
        due(x.order(7, 1), 99);
    }

    private void badAheadOfFull(PaperCutter x) {
        for (int place = 0; place < 6; place++) {
            int at = place;
            refused(BAD, () -> withOrders(8), y -> addOrder(y, orderWith(at, -1)));
            due(addOrder(withOrders(8), orderWith(at, 1000)), BAD);
            due(addOrder(withOrders(7), orderWith(at, 1000)), BAD);
        }
        due(addOrder(withOrders(7), orderWith(0, 3)), 7);
        due(addOrder(withOrders(8), orderWith(0, 3)), FULL);
    }

    // ---- promise 4

    private void rolls() {
        test(4, "A roll has a grade from 0 to 3", x -> rollRange(x, 0, 0, 3));
        test(4, "`width`: the width, at least 50 here", x -> rollRange(x, 1, 50, 300));
        test(4, "a width from 10 to 300", this::narrowestRoll);
        test(4, "and a length from 1 to 999", x -> rollRange(x, 2, 1, 999));
        test(4, "Adds a roll.", this::addsRoll);
        test(4, "There are at most 12 rolls, numbered likewise.", this::twelveRolls);
        test(4, "Returns its number; BAD if a number is out of range; FULL if there are 12 rolls.",
            this::badAheadOfFullRolls);
    }

    private static int addRoll(PaperCutter x, int[] n) {
        return x.addRoll(n[0], n[1], n[2]);
    }

    private static int[] rollWith(int place, int v) {
        int[] n = {1, 200, 50};
        n[place] = v;
        return n;
    }

    private void rollRange(PaperCutter x, int place, int low, int high) {
        for (int wrong : new int[] {low - 1, high + 1, -high - 1, MIN, MAX, 65536 + low, 1024 + high}) {
            due("with " + wrong, addRoll(x, rollWith(place, wrong)), BAD);
            refused(BAD, Edges::typing, y -> addRoll(y, rollWith(place, wrong)));
        }
        due(x.account(8), 0);
        due(x.count(0), 0);
        due(addRoll(x, rollWith(place, low)), 0);
        due(x.roll(0, place), low);
        due(addRoll(x, rollWith(place, high)), 1);
        due(x.roll(1, place), high);
        due(x.account(8), 2);
    }

    private void narrowestRoll(PaperCutter x) {
        due(x.addRoll(0, 10, 1), BAD);
        x.set(2, 10);
        x.addRoll(0, 76, 5);
        order(x, 0, 60, 99);
        Checks.run(x, "1x0", 0, 5);
        due(x.keep(0), 1);
        due(x.roll(1, 1), 10);
        due(x.addRoll(0, 300, 5), 2);
        due(x.addRoll(0, 301, 5), BAD);
    }

    private void addsRoll(PaperCutter x) {
        due(x.addRoll(0, 50, 1), 0);
        each(what -> x.roll(0, what), 0, 50, 1, 1, 0, NOTHING);
        due(x.addRoll(3, 300, 999), 1);
        each(what -> x.roll(1, what), 3, 300, 999, 999, 0, NOTHING);
    }

    private void twelveRolls(PaperCutter x) {
        for (int i = 0; i < 12; i++) {
            due("roll " + i, x.addRoll(0, 50 + i, 1 + i), i);
        }
        due(x.addRoll(0, 50, 1), FULL);
        due(x.account(8), 12);
        for (int i = 0; i < 12; i++) {
            due("width of " + i, x.roll(i, 1), 50 + i);
        }
        refused(FULL, () -> withRolls(12), y -> y.addRoll(0, 50, 1));
        x.undo();
        due(x.addRoll(0, 99, 1), 11);
        PaperCutter y = withRolls(11);
        order(y, 0, 10, 99);
        Checks.run(y, "1x0", 0, 1);
        due(y.keep(0), 11);
        due(y.addRoll(0, 50, 1), FULL);
    }

    private void badAheadOfFullRolls(PaperCutter x) {
        for (int place = 0; place < 3; place++) {
            int at = place;
            refused(BAD, () -> withRolls(12), y -> addRoll(y, rollWith(at, -1)));
            due(addRoll(withRolls(12), rollWith(at, 1000)), BAD);
            due(addRoll(withRolls(11), rollWith(at, 1000)), BAD);
        }
        due(addRoll(withRolls(11), rollWith(0, 3)), 11);
    }

    // ---- promise 5

    private void numbersOfOrders() {
        test(5, "The allowance of an order is its amount times its tolerance divided by 100, rounded down",
            this::allowance);
        test(5, "its least amount is the amount less the allowance, and its greatest amount is the amount plus the"
            + " allowance", this::leastAndGreatest);
        test(5, "What is made for an order is the sum, over all runs, of its strips in the run times the length of"
            + " the run.", this::madeForOrder);
        test(5, "Its room is the greatest amount less what is made.", this::room);
        test(5, "It is met if at least the least amount is made", this::met);
        test(5, "it is wanting if less than the amount is made", this::wanting);
        test(5, "11 the number of runs that have strips for it", this::runsForOrder);
        test(5, "Returns a number of an order.", this::addsOrder);
        test(5, "5: 1 if it accepts better grades, otherwise 0", this::better);
        test(5, "NONE if there is no such order; BAD if there is no such what.", this::noOrder);
    }

    private void allowance(PaperCutter x) {
        int[][] cases = {{1, 50, 0}, {2, 50, 1}, {3, 50, 1}, {99, 1, 0}, {100, 1, 1}, {199, 1, 1}, {999, 0, 0},
            {999, 50, 499}};
        for (int i = 0; i < cases.length; i++) {
            x.addOrder(0, 10, cases[i][0], cases[i][1], 0, 0);
            due("order " + i, x.order(i, 6), cases[i][0] - cases[i][2]);
            due("order " + i, x.order(i, 7), cases[i][0] + cases[i][2]);
        }
    }

    private void leastAndGreatest(PaperCutter x) {
        x.addOrder(0, 10, 10, 50, 0, 0);
        x.addOrder(0, 10, 10, 0, 0, 0);
        x.addOrder(0, 10, 1, 50, 0, 0);
        due(x.order(0, 6), 5);
        due(x.order(0, 7), 15);
        due(x.order(1, 6), 10);
        due(x.order(1, 7), 10);
        due(x.order(2, 6), 1);
        due(x.order(2, 7), 1);
    }

    private void madeForOrder(PaperCutter x) {
        x.addRoll(0, 200, 90);
        order(x, 0, 50, 99);
        order(x, 0, 20, 99);
        due(x.order(0, 8), 0);
        Checks.run(x, "2x0", 0, 5);
        due(x.order(0, 8), 10);
        due(x.order(1, 8), 0);
        Checks.run(x, "1x0+3x1", 0, 7);
        due(x.order(0, 8), 17);
        due(x.order(1, 8), 21);
        x.remove(0);
        due(x.order(0, 8), 7);
        x.remove(0);
        due(x.order(0, 8), 0);
        PaperCutter y = withRuns(16);
        due(y.order(0, 8), 136);
    }

    private void room(PaperCutter x) {
        x.addRoll(0, 200, 90);
        x.addOrder(0, 50, 10, 20, 0, 0);
        due(x.order(0, 9), 12);
        Checks.run(x, "3x0", 0, 3);
        due(x.order(0, 9), 3);
        Checks.run(x, "1x0", 0, 3);
        due(x.order(0, 9), 0);
        due(Checks.run(x, "1x0", 0, 1), REFUSED);
        due(x.order(0, 9), 0);
    }

    private void met(PaperCutter x) {
        x.addRoll(0, 200, 90);
        x.addOrder(0, 50, 10, 20, 0, 0);
        due(x.order(0, 10), 0);
        Checks.run(x, "1x0", 0, 7);
        due(x.order(0, 10), 0);
        due(x.account(6), 0);
        Checks.run(x, "1x0", 0, 1);
        due(x.order(0, 10), 1);
        due(x.account(6), 1);
        Checks.run(x, "1x0", 0, 4);
        due(x.order(0, 8), 12);
        due(x.order(0, 10), 1);
        order(x, 0, 50, 1);
        due(x.order(1, 10), 0);
        Checks.run(x, "1x1", 0, 1);
        due(x.order(1, 10), 1);
    }

    private void wanting(PaperCutter x) {
        x.addRoll(0, 200, 90);
        x.addOrder(0, 50, 10, 20, 0, 0);
        due(x.patterns(0), 3);
        Checks.run(x, "1x0", 0, 9);
        due(x.order(0, 10), 1);
        due(x.patterns(0), 3);
        Checks.run(x, "1x0", 0, 1);
        due(x.order(0, 9), 2);
        due(x.patterns(0), 0);
    }

    private void runsForOrder(PaperCutter x) {
        PaperCutter y = withRuns(15);
        order(y, 0, 20, 9);
        due(y.order(0, 11), 15);
        due(y.order(1, 11), 0);
        Checks.run(y, "2x0+3x1", 0, 1);
        due(y.order(0, 11), 16);
        due(y.order(1, 11), 1);
        y.remove(0);
        due(y.order(0, 11), 15);
        order(x, 0, 20, 9);
        due(x.order(0, 11), 0);
    }

    private void better(PaperCutter x) {
        x.addOrder(0, 20, 9, 0, 0, 0);
        x.addOrder(0, 20, 9, 0, 0, 1);
        due(x.order(0, 5), 0);
        due(x.order(1, 5), 1);
    }

    private void noOrder(PaperCutter x) {
        due(x.order(0, 0), NONE);
        PaperCutter y = withOrders(8);
        due(y.order(-1, 0), NONE);
        due(y.order(7, 1), 17);
        due(y.order(8, 0), NONE);
        far(NONE, o -> y.order(o, 0));
        due(y.order(0, -1), BAD);
        due(y.order(0, 11), 0);
        due(y.order(0, 12), BAD);
        far(BAD, what -> y.order(0, what));
        due(y.order(8, 12), NONE);
        due(y.order(-1, -1), NONE);
        refused(NONE, Edges::typing, z -> z.order(2, 0));
        refused(BAD, Edges::typing, z -> z.order(0, 12));
    }

    // ---- promise 6

    private void numbersOfRolls() {
        test(6, "what is left of it is the length less the lengths of all its runs.", this::left);
        test(6, "4 the number of its runs", this::runsOfRoll);
        test(6, "5 the run of which it is the remnant, or NOTHING", this::sources);
        test(6, "Numbers of runs that roll returns are those of now.", this::sourcesOfNow);
        test(6, "Returns a number of a roll.", this::addsRoll);
        test(6, "NONE if there is no such roll; BAD if there is no such what.", this::noRoll);
    }

    private void left(PaperCutter x) {
        x.addRoll(0, 200, 10);
        x.addRoll(0, 200, 10);
        order(x, 0, 50, 99);
        due(x.roll(0, 3), 10);
        Checks.run(x, "3x0", 0, 9);
        due(x.roll(0, 3), 1);
        Checks.run(x, "1x0", 0, 1);
        due(x.roll(0, 3), 0);
        due(x.roll(0, 2), 10);
        due(x.roll(1, 3), 10);
        x.remove(0);
        due(x.roll(0, 3), 9);
        due(withRuns(16).roll(0, 3), 64);
    }

    private void runsOfRoll(PaperCutter x) {
        PaperCutter y = withRuns(15);
        y.addRoll(0, 200, 1);
        due(y.roll(0, 4), 15);
        due(y.roll(1, 4), 0);
        Checks.run(y, "1x0", 1, 1);
        due(y.roll(0, 4), 15);
        due(y.roll(1, 4), 1);
        x.addRoll(0, 50, 1);
        due(x.roll(0, 4), 0);
    }

    private void sources(PaperCutter x) {
        PaperCutter y = withRuns(16);
        due(y.keep(15), 1);
        due(y.keep(0), 2);
        due(y.roll(0, 5), NOTHING);
        due(y.roll(1, 5), 15);
        due(y.roll(2, 5), 0);
        y.undo();
        y.addRoll(0, 50, 1);
        due(y.roll(2, 5), NOTHING);
    }

    private void sourcesOfNow(PaperCutter x) {
        PaperCutter y = withRuns(4);
        y.keep(2);
        due(y.roll(1, 5), 2);
        y.remove(0);
        due(y.roll(1, 5), 1);
        y.swap(1, 2);
        due(y.roll(1, 5), 2);
        y.split(0, 1);
        due(y.roll(1, 5), 3);
        y.remove(0);
        y.remove(0);
        y.remove(0);
        due(y.roll(1, 5), 0);
        y.undo();
        due(y.roll(1, 5), 1);
        y.addOrder(0, 150, 9, 0, 0, 0);
        Checks.run(y, "1x1", 0, 1);
        y.swap(1, 2);
        due(y.roll(1, 5), 2);
        y.arrange(1);
        due(y.roll(1, 5), 1);
        y.swap(0, 1);
        y.arrange(0);
        due(y.roll(1, 5), 0);
    }

    private void noRoll(PaperCutter x) {
        due(x.roll(0, 0), NONE);
        PaperCutter y = withRolls(12);
        due(y.roll(-1, 0), NONE);
        due(y.roll(11, 1), 61);
        due(y.roll(12, 0), NONE);
        far(NONE, r -> y.roll(r, 0));
        due(y.roll(0, -1), BAD);
        due(y.roll(0, 6), BAD);
        far(BAD, what -> y.roll(0, what));
        due(y.roll(12, 6), NONE);
        due(y.roll(-1, -1), NONE);
        refused(NONE, Edges::typing, z -> z.roll(3, 0));
        refused(BAD, Edges::typing, z -> z.roll(0, 6));
    }

    // ---- promise 7

    private void ranking() {
        test(7, "by ascending due dates, of several by descending widths, of several of these by their numbers.",
            this::ranks);
        test(7, "`rank`: the place, from 0", this::firstRank);
        test(7, "Returns the order; NONE if there is no such place.", this::noPlace);
    }

    private void ranks(PaperCutter x) {
        x.addOrder(0, 30, 1, 0, 99, 0);
        x.addOrder(0, 10, 1, 0, 1, 0);
        x.addOrder(0, 150, 1, 0, 1, 0);
        x.addOrder(0, 10, 1, 0, 0, 0);
        x.addOrder(0, 149, 1, 0, 1, 0);
        x.addOrder(0, 150, 1, 0, 1, 0);
        x.addOrder(0, 11, 1, 0, 98, 0);
        x.addOrder(0, 10, 1, 0, 0, 0);
        each(rank -> x.ranked(rank), 3, 7, 2, 5, 4, 1, 6, 0, NONE);
        PaperCutter y = new PaperCutter();
        y.addOrder(0, 20, 1, 0, 5, 0);
        y.addOrder(0, 20, 1, 0, 5, 0);
        y.addOrder(0, 19, 1, 0, 5, 0);
        each(rank -> y.ranked(rank), 0, 1, 2, NONE);
        y.addOrder(0, 21, 1, 0, 5, 0);
        y.addOrder(0, 10, 1, 0, 4, 0);
        each(rank -> y.ranked(rank), 4, 3, 0, 1, 2, NONE);
    }

    private void firstRank(PaperCutter x) {
        due(x.ranked(0), NONE);
        order(x, 0, 10, 1);
        due(x.ranked(0), 0);
        due(x.ranked(-1), NONE);
        due(x.ranked(1), NONE);
        order(x, 0, 11, 1);
        due(x.ranked(0), 1);
        due(x.ranked(1), 0);
    }

    private void noPlace(PaperCutter x) {
        due(x.ranked(0), NONE);
        far(NONE, rank -> x.ranked(rank));
        PaperCutter y = withOrders(8);
        due(y.ranked(7), 0);
        due(y.ranked(8), NONE);
        due(y.ranked(-1), NONE);
        far(NONE, rank -> y.ranked(rank));
        refused(NONE, Edges::typing, z -> z.ranked(2));
    }

    // ---- promise 8

    private void explanations() {
        test(8, "Returns 0 if it is met", this::explainMet);
        test(8, "1 if nothing is left of any roll that can be used for it", this::explainNothingLeft);
        test(8, "Without rolls that can be used, explain returns 1", this::explainNoRolls);
        test(8, "2 if all those of which something is left are too narrow for a possible pattern with a strip for it",
            this::explainNarrow);
        test(8, "3 if the strips for it alone that such rolls give, each with as many of them as a possible pattern"
            + " has at most, are shorter together, over all that is left, than what is lacking to the least amount",
            this::explainShort);
        test(8, "each with as many of them as a possible pattern has at most", this::explainMostStrips);
        test(8, "other orders and rooms do not matter for 2 and 3.", this::explainAlone);
        test(8, "Returns why an order is not met, by the present runs.", this::explainPresent);
        test(8, "NONE if there is no such order.", this::explainNone);
    }

    private void explainMet(PaperCutter x) {
        x.addRoll(0, 56, 9);
        x.addOrder(0, 50, 10, 20, 0, 0);
        Checks.run(x, "1x0", 0, 7);
        due(x.explain(0), 4);
        Checks.run(x, "1x0", 0, 1);
        due(x.explain(0), 0);
        Checks.run(x, "1x0", 0, 1);
        due(x.explain(0), 0);
    }

    private void explainNothingLeft(PaperCutter x) {
        x.addRoll(0, 100, 5);
        order(x, 0, 50, 4);
        order(x, 0, 60, 9);
        Checks.run(x, "1x0", 0, 4);
        due(x.explain(1), 3);
        Checks.run(x, "1x1", 0, 1);
        due(x.explain(1), 1);
        x.addRoll(0, 50, 1);
        due(x.explain(1), 2);
        x.addRoll(0, 66, 8);
        due(x.explain(1), 4);
    }

    private void explainNoRolls(PaperCutter x) {
        x.addOrder(1, 50, 4, 0, 0, 0);
        x.addOrder(1, 50, 4, 0, 0, 1);
        due(x.explain(0), 1);
        due(x.explain(1), 1);
        x.addRoll(2, 100, 9);
        due(x.explain(0), 1);
        due(x.explain(1), 1);
        x.addRoll(0, 100, 9);
        due(x.explain(0), 1);
        due(x.explain(1), 4);
        x.addRoll(1, 100, 9);
        due(x.explain(0), 4);
        x.undo();
        due(x.explain(0), 1);
        PaperCutter y = withRolls(12);
        order(y, 1, 10, 4);
        order(y, 0, 55, 12);
        order(y, 0, 55, 13);
        due(y.explain(0), 1);
        due(y.explain(1), 4);
        due(y.explain(2), 3);
    }

    private void explainNarrow(PaperCutter x) {
        order(x, 0, 50, 4);
        x.addRoll(0, 55, 9);
        due(x.explain(0), 2);
        x.addRoll(0, 56, 4);
        due(x.explain(0), 4);
        Checks.run(x, "1x0", 1, 3);
        x.set(1, 4);
        due(x.explain(0), 2);
        PaperCutter y = new PaperCutter();
        y.set(1, 0);
        y.set(0, 2);
        order(y, 0, 50, 4);
        order(y, 0, 51, 4);
        y.addRoll(0, 50, 9);
        due(y.explain(0), 4);
        due(y.explain(1), 2);
        y.set(1, 1);
        due(y.explain(0), 2);
    }

    private void explainShort(PaperCutter x) {
        x.addRoll(0, 106, 5);
        x.addRoll(0, 60, 7);
        x.addRoll(0, 55, 999);
        x.addOrder(0, 50, 17, 0, 0, 0);
        x.addOrder(0, 50, 18, 0, 0, 0);
        x.addOrder(0, 50, 21, 20, 0, 0);
        x.addOrder(0, 50, 22, 20, 0, 0);
        due(x.explain(0), 4);
        due(x.explain(1), 3);
        due(x.order(2, 6), 17);
        due(x.explain(2), 4);
        due(x.order(3, 6), 18);
        due(x.explain(3), 3);
        Checks.run(x, "1x1", 1, 1);
        due(x.explain(1), 3);
        due(x.explain(0), 3);
        Checks.run(x, "2x1", 0, 1);
        due(x.explain(1), 3);
        x.addRoll(0, 56, 1);
        due(x.explain(1), 4);
    }

    private void explainMostStrips(PaperCutter x) {
        order(x, 0, 10, 5);
        order(x, 0, 10, 6);
        x.addRoll(0, 300, 1);
        due(x.explain(0), 4);
        due(x.explain(1), 3);
        x.set(0, 7);
        due(x.explain(1), 4);
        PaperCutter y = new PaperCutter();
        y.set(0, 7);
        y.set(1, 0);
        y.addRoll(0, 80, 1);
        order(y, 0, 10, 8);
        order(y, 0, 10, 9);
        due(y.explain(0), 4);
        due(y.explain(1), 3);
        // Of ninety, nine strips would need eight knives, and eight leave a rest: six are the most.
        PaperCutter z = new PaperCutter();
        z.set(0, 7);
        z.set(1, 0);
        z.addRoll(0, 90, 1);
        order(z, 0, 10, 6);
        order(z, 0, 10, 7);
        due(z.explain(0), 4);
        due(z.explain(1), 3);
    }

    private void explainAlone(PaperCutter x) {
        x.set(1, 0);
        x.set(0, 2);
        x.addRoll(0, 60, 9);
        order(x, 0, 20, 9);
        order(x, 0, 20, 10);
        // Three strips leave nothing, so the two knives do for them.
        due(x.explain(0), 4);
        due(x.explain(1), 4);
        order(x, 0, 25, 9);
        order(x, 0, 10, 99);
        order(x, 0, 25, 10);
        // Two strips of 25 would take one of order 3 beside them to leave nothing; alone it is one.
        due(x.explain(2), 4);
        due(x.explain(4), 3);
        PaperCutter y = new PaperCutter();
        y.addRoll(0, 110, 1);
        order(y, 0, 50, 2);
        order(y, 0, 100, 9);
        due(y.explain(0), 4);
        due(y.explain(1), 3);
    }

    private void explainPresent(PaperCutter x) {
        x.addRoll(0, 100, 5);
        order(x, 0, 50, 5);
        order(x, 0, 50, 5);
        Checks.run(x, "1x0", 0, 5);
        due(x.explain(0), 0);
        due(x.explain(1), 1);
        x.remove(0);
        due(x.explain(0), 4);
        due(x.explain(1), 4);
    }

    private void explainNone(PaperCutter x) {
        due(x.explain(0), NONE);
        PaperCutter y = withOrders(8);
        due(y.explain(7), 1);
        due(y.explain(8), NONE);
        due(y.explain(-1), NONE);
        far(NONE, o -> y.explain(o));
        refused(NONE, Edges::typing, z -> z.explain(2));
    }

    // ---- promise 9

    private void characters() {
        test(9, "`code`: the code of the character, 32 to 126", this::codes);
        test(9, "Appends a character to the text.", this::appends);
        test(9, "Returns the new length of the text", this::lengths);
        test(9, "FULL if the text has 80 characters.", this::fullText);
        test(9, "BAD if the code is out of range; FULL if the text has 80 characters.", this::badAheadOfFullText);
    }

    private void codes(PaperCutter x) {
        int[] wrong = {31, 127, 0, -1, 128, 255, 256 + 48, 65536 + 48, -65536 + 48, MIN, MIN + 48, MAX};
        for (int code : wrong) {
            due("code " + code, x.append(code), BAD);
            refused(BAD, Edges::typing, y -> y.append(code));
        }
        due(x.count(1), 0);
        for (int code = 32; code <= 126; code++) {
            due("code " + code, new PaperCutter().append(code), 1);
        }
    }

    private void appends(PaperCutter x) {
        x.addRoll(0, 100, 9);
        order(x, 0, 50, 9);
        x.append('1');
        due(x.append(31), BAD);
        x.append('x');
        due(x.append(127), BAD);
        x.append('0');
        due(x.run(0, 1), 0);
    }

    private void lengths(PaperCutter x) {
        for (int length = 1; length <= 80; length++) {
            due("character " + length, x.append(32 + length % 95), length);
            due("character " + length, x.count(1), length);
        }
        x.execute();
        due(x.append(126), 1);
    }

    private static PaperCutter filled(int length) {
        PaperCutter x = withRuns(1);
        StringBuilder text = new StringBuilder("2x0");
        while (text.length() < length) {
            text.append("+1x0");
        }
        Checks.type(x, text.substring(0, length));
        return x;
    }

    private void fullText(PaperCutter x) {
        due(filled(79).append('a'), 80);
        due(filled(80).append('a'), FULL);
        refused(FULL, () -> filled(80), y -> y.append('a'));
        PaperCutter full = filled(80);
        due(full.append('1'), FULL);
        due(full.run(0, 1), -1080);
        due(full.append('1'), 1);
        PaperCutter last = filled(79);
        due(last.run(0, 1), REFUSED);
        due(last.reason(0), 4);
    }

    private void badAheadOfFullText(PaperCutter x) {
        PaperCutter full = filled(80);
        due(full.append(31), BAD);
        due(full.append(127), BAD);
        due(full.append(126), FULL);
        due(full.append(32), FULL);
        due(full.append(MIN), BAD);
        due(full.append(MAX), BAD);
        refused(BAD, () -> filled(80), y -> y.append(31));
    }
}
