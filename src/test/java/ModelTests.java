import java.util.Random;

/** Long runs of calls, with every answer compared to the model's; the seeds are fixed. */
final class ModelTests {
    private final Checks checks;
    private final Random random;
    private final PaperCutter x = new PaperCutter();
    private final Model m = new Model();
    private final int seed;
    private final boolean narrow;
    private int calls = 0;

    private ModelTests(Checks checks, int seed) {
        this.checks = checks;
        this.seed = seed;
        this.random = new Random(seed);
        this.narrow = seed % 5 == 0;
    }

    static void all(Checks checks, int runs) {
        for (int seed = 1; seed <= runs; seed++) {
            new ModelTests(checks, seed).play();
        }
    }

    private void play() {
        if (seed % 4 != 0) {
            stock();
        }
        while (calls < 350) {
            call();
        }
        look();
    }

    private void stock() {
        int edge = any(0, 3);
        due("set(1, " + edge + ")", x.set(1, edge), m.set(1, edge));
        int rolls = any(2, 12);
        int orders = any(2, 8);
        for (int i = 0; i < rolls; i++) {
            addRoll();
        }
        for (int i = 0; i < orders; i++) {
            addOrder();
        }
    }

    private int someGrade() {
        return seed % 3 == 0 ? near(0, 3) : near(1, 2);
    }

    private int any(int low, int high) {
        return low + random.nextInt(high - low + 1);
    }

    /** Mostly from the range, sometimes just outside of it or far away. */
    private int near(int low, int high) {
        int kind = random.nextInt(60);
        if (kind == 0) {
            return low - 1;
        }
        if (kind == 1) {
            return high + 1;
        }
        if (kind == 2) {
            return random.nextBoolean() ? Integer.MIN_VALUE + any(0, 20) : Integer.MAX_VALUE - any(0, 20);
        }
        return kind < 6 ? low : kind < 9 ? high : any(low, high);
    }

    private int someOrder() {
        return near(0, Math.max(0, m.account(9) - 1));
    }

    private int someRoll() {
        return near(0, Math.max(0, m.account(8) - 1));
    }

    private int someRun() {
        return near(0, Math.max(0, m.account(7) - 1));
    }

    private void due(String call, int got, int want) {
        calls++;
        checks.due("seed " + seed + ", call " + calls + ": " + call, got, want);
    }

    private void call() {
        switch (random.nextInt(36)) {
            case 0 -> addOrder();
            case 1 -> addRoll();
            case 2 -> set();
            case 3, 4, 5 -> run();
            case 6, 7, 8 -> cut();
            case 9 -> cutAll();
            case 10 -> remove();
            case 11, 12 -> swapOrSplit();
            case 13 -> arrange();
            case 14, 15 -> keep();
            case 16 -> execute();
            case 17 -> undo();
            case 18 -> saveOrRestore();
            case 19 -> write();
            default -> ask();
        }
    }

    private void set() {
        int what = near(0, 2);
        int v = what == 0 ? near(2, 7) : what == 1 ? (random.nextInt(3) == 0 ? 0 : near(0, 20)) : near(10, 40);
        due("set(" + what + ", " + v + ")", x.set(what, v), m.set(what, v));
    }

    private void addOrder() {
        int grade = someGrade();
        int width = narrow ? near(10, 40) : random.nextInt(3) == 0 ? 10 * any(1, 15) : near(10, 150);
        int amount = random.nextInt(4) == 0 ? near(1, 5) : near(1, 999);
        int tolerance = near(0, 50);
        int due = near(0, 9);
        int better = near(0, 1);
        due("addOrder(" + grade + ", " + width + ", " + amount + ", " + tolerance + ", " + due + ", " + better + ")",
            x.addOrder(grade, width, amount, tolerance, due, better),
            m.addOrder(grade, width, amount, tolerance, due, better));
    }

    private void addRoll() {
        int grade = someGrade();
        int width = random.nextInt(3) == 0 ? 10 * any(5, 30) : near(50, 300);
        int length = random.nextInt(3) == 0 ? near(1, 10) : near(1, 999);
        due("addRoll(" + grade + ", " + width + ", " + length + ")", x.addRoll(grade, width, length),
            m.addRoll(grade, width, length));
    }

    private void type(String text) {
        for (char sign : text.toCharArray()) {
            due("append(" + (int) sign + ")", x.append(sign), m.append(sign));
        }
    }

    private void run() {
        int roll = someRoll();
        StringBuilder text = new StringBuilder();
        int parts = random.nextInt(3) == 0 ? any(1, 3) : 1;
        for (int i = 0; i < parts; i++) {
            text.append(i > 0 ? "+" : "").append(any(1, random.nextInt(6) == 0 ? 9 : 2)).append('x');
            text.append(random.nextInt(12) == 0 ? any(0, 9) : orderFor(roll));
        }
        type(damaged(text));
        int length = random.nextInt(4) == 0 ? near(1, 300) : near(1, 3);
        due("run(" + roll + ", " + length + ")", x.run(roll, length), m.run(roll, length));
        reasons();
    }

    /** Often an order of the roll's grade, as most runs would be refused otherwise. */
    private int orderFor(int roll) {
        int order = any(0, Math.max(0, m.account(9) - 1));
        for (int i = 0; i < 6 && m.order(order, 0) != m.roll(roll, 0); i++) {
            order = any(0, Math.max(0, m.account(9) - 1));
        }
        return order;
    }

    private void reasons() {
        due("reason(0)", x.reason(0), m.reason(0));
        due("reason(1)", x.reason(1), m.reason(1));
    }

    private String damaged(StringBuilder text) {
        if (random.nextInt(4) != 0 || text.length() == 0) {
            return text.toString();
        }
        int at = random.nextInt(text.length());
        switch (random.nextInt(4)) {
            case 0 -> text.setLength(at);
            case 1 -> text.deleteCharAt(at);
            case 2 -> text.insert(at, " ;+x019abtZ".charAt(random.nextInt(11)));
            default -> text.setCharAt(at, " ;+x019abtZ".charAt(random.nextInt(11)));
        }
        return text.toString();
    }

    private void cut() {
        int roll = someRoll();
        due("cut(" + roll + ")", x.cut(roll), m.cut(roll));
    }

    private void cutAll() {
        if (random.nextInt(3) == 0) {
            due("cutAll()", x.cutAll(), m.cutAll());
        }
    }

    private void remove() {
        int run = someRun();
        due("remove(" + run + ")", x.remove(run), m.remove(run));
    }

    private void swapOrSplit() {
        int one = someRun();
        if (random.nextBoolean()) {
            int other = someRun();
            due("swap(" + one + ", " + other + ")", x.swap(one, other), m.swap(one, other));
            return;
        }
        int length = near(1, Math.max(1, m.made(one, 1)));
        due("split(" + one + ", " + length + ")", x.split(one, length), m.split(one, length));
    }

    private void arrange() {
        int way = near(0, 1);
        due("arrange(" + way + ")", x.arrange(way), m.arrange(way));
    }

    private void keep() {
        int run = someRun();
        due("keep(" + run + ")", x.keep(run), m.keep(run));
    }

    private void execute() {
        StringBuilder text = new StringBuilder();
        int parts = any(1, 4);
        for (int i = 0; i < parts; i++) {
            text.append(i > 0 ? ";" : "").append(command());
        }
        type(damaged(text));
        due("execute() of " + text, x.execute(), m.execute());
        reasons();
    }

    private String command() {
        return switch (random.nextInt(7)) {
            case 0, 1 -> "order " + any(0, 3) + " " + any(8, 150) + " " + any(1, 99) + " " + any(0, 50) + " "
                + any(0, 99) + (random.nextBoolean() ? " better" : "");
            case 2, 3 -> "roll " + any(0, 3) + " " + any(45, 300) + " 0" + any(1, 99);
            case 4 -> "cut " + any(0, Math.max(0, m.account(8)));
            case 5 -> random.nextInt(3) == 0 ? "all" : "arrange 0";
            default -> "arrange " + any(0, 2);
        };
    }

    private void undo() {
        int times = any(1, random.nextInt(8) == 0 ? 9 : 1);
        for (int i = 0; i < times; i++) {
            due("undo()", x.undo(), m.undo());
        }
    }

    private void saveOrRestore() {
        if (random.nextInt(3) != 0) {
            due("save()", x.save(), m.save());
        } else {
            due("restore()", x.restore(), m.restore());
        }
    }

    private void write() {
        int run = someRun();
        due("write(" + run + ")", x.write(run), m.write(run));
        for (int k = -1; k < 8; k++) {
            due("written(" + k + ")", x.written(k), m.written(k));
        }
    }

    private void ask() {
        int what = near(0, 12);
        int roll = someRoll();
        int run = someRun();
        switch (random.nextInt(14)) {
            case 0 -> askOrder(someOrder(), what);
            case 1 -> due("roll(" + roll + ", " + what + ")", x.roll(roll, what), m.roll(roll, what));
            case 2 -> due("ranked(" + what + ")", x.ranked(what), m.ranked(what));
            case 3 -> askExplain(someOrder());
            case 4 -> askBest(roll);
            case 5 -> due("patterns(" + roll + ")", x.patterns(roll), m.patterns(roll));
            case 6 -> askMade(run, near(0, 18));
            case 7 -> due("position(" + run + ", " + what + ")", x.position(run, what), m.position(run, what));
            case 8 -> askSetup(run, near(0, Math.max(0, m.account(7) - 1)));
            case 9 -> due("leastSetups()", x.leastSetups(), m.leastSetups());
            case 10 -> askIfAll(near(0, 4));
            case 11 -> due("account(" + what + ")", x.account(what), m.account(what));
            case 12 -> askGrade(near(0, 3), near(0, 5));
            default -> due("count(" + what + ")", x.count(what), m.count(what));
        }
    }

    private void askOrder(int order, int what) {
        due("order(" + order + ", " + what + ")", x.order(order, what), m.order(order, what));
    }

    private void askExplain(int order) {
        due("explain(" + order + ")", x.explain(order), m.explain(order));
    }

    private void askBest(int roll) {
        int what = random.nextBoolean() ? near(0, 3) : near(10, 18);
        due("best(" + roll + ", " + what + ")", x.best(roll, what), m.best(roll, what));
        due("again(" + roll + ")", x.again(roll), m.again(roll));
    }

    private void askMade(int run, int what) {
        due("made(" + run + ", " + what + ")", x.made(run, what), m.made(run, what));
    }

    private void askSetup(int run, int before) {
        due("setup(" + run + ", " + before + ")", x.setup(run, before), m.setup(run, before));
    }

    private void askIfAll(int what) {
        if (random.nextInt(4) == 0) {
            due("ifAll(" + what + ")", x.ifAll(what), m.ifAll(what));
        }
    }

    private void askGrade(int grade, int what) {
        due("grade(" + grade + ", " + what + ")", x.grade(grade, what), m.grade(grade, what));
    }

    /** Compares the whole state; how the object answers after 512 calls is free, so this comes last and is short. */
    private void look() {
        for (int what = 0; what <= 9; what++) {
            due("account(" + what + ")", x.account(what), m.account(what));
        }
        for (int o = 0; o < m.account(9); o++) {
            due("order(" + o + ", 8)", x.order(o, 8), m.order(o, 8));
            askExplain(o);
        }
        for (int r = 0; r < m.account(8); r++) {
            due("roll(" + r + ", 3)", x.roll(r, 3), m.roll(r, 3));
            due("roll(" + r + ", 5)", x.roll(r, 5), m.roll(r, 5));
        }
        checks.holds("accounts of seed " + seed + " add up",
            x.account(0) == x.account(1) + x.account(2) + x.account(3));
    }
}
