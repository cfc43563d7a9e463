import java.util.function.Consumer;
import java.util.function.Supplier;
import java.util.function.ToIntFunction;

/** Tests at the edges: each belongs to a sentence of the document, and a failing row has its promise and its words. */
abstract class Edges {
    static final int NONE = -1;
    static final int BAD = -2;
    static final int FULL = -3;
    static final int REFUSED = -4;
    static final int NOTHING = -5;

    /** Numbers that no list reaches; some wrap around when ten is taken away, or would be small if cut to 16 bits. */
    static final int[] FAR = {Integer.MIN_VALUE, Integer.MIN_VALUE + 1, Integer.MIN_VALUE + 9, Integer.MIN_VALUE + 10,
        Integer.MIN_VALUE + 11, -65536, -256, -10, -2, 100, 256, 65536, Integer.MAX_VALUE - 1, Integer.MAX_VALUE};

    private final Checks checks;
    private final Sentences sentences;
    private String head = "";

    Edges(Checks checks, Sentences sentences) {
        this.checks = checks;
        this.sentences = sentences;
    }

    abstract void all();

    static void all(Checks checks, Sentences sentences) {
        new StockEdges(checks, sentences).all();
        new PatternEdges(checks, sentences).all();
        new RunEdges(checks, sentences).all();
        new ChangeEdges(checks, sentences).all();
        new ArrangeEdges(checks, sentences).all();
        new AccountEdges(checks, sentences).all();
        new TextEdges(checks, sentences).all();
        new UndoEdges(checks, sentences).all();
    }

    /** Runs one test on a new planner; it has to check something. */
    final void test(int promise, String words, Consumer<PaperCutter> body) {
        int before = checks.count();
        head = "promise " + promise + ", \"" + words + "\": ";
        sentences.quote(promise, words);
        body.accept(new PaperCutter());
        checks.holds(head + "is tested", checks.count() > before);
    }

    final void due(int got, int want) {
        due("", got, want);
    }

    final void due(String call, int got, int want) {
        checks.due(got == want ? head : head + place() + " " + call.trim(), got, want);
    }

    final void same(String got, String want) {
        checks.same(got.equals(want) ? head : head + place(), got, want);
    }

    /** Numbers of one thing, for what from 0 on. */
    final void each(ToIntFunction<Integer> ask, int... dues) {
        for (int what = 0; what < dues.length; what++) {
            due("what " + what, ask.applyAsInt(what), dues[what]);
        }
    }

    final void far(int want, ToIntFunction<Integer> ask) {
        for (int far : FAR) {
            due("with " + far, ask.applyAsInt(far), want);
        }
    }

    /** The call has the answer that is due, and all else is as if it had not been made. */
    final void refused(int want, Supplier<PaperCutter> mill, ToIntFunction<PaperCutter> call) {
        PaperCutter with = mill.get();
        PaperCutter without = mill.get();
        due(call.applyAsInt(with), want);
        same(Look.reasons(with), Look.reasons(without));
        standsAs(with, without);
    }

    /** The same for a call that reads a text, which empties it and may keep a reason. */
    final void refusedText(int want, Supplier<PaperCutter> mill, String text, ToIntFunction<PaperCutter> call) {
        PaperCutter with = mill.get();
        PaperCutter without = mill.get();
        Checks.type(with, text);
        due(text + " ", call.applyAsInt(with), want);
        if (want != REFUSED) {
            same(Look.reasons(with), Look.reasons(without));
        }
        standsAs(with, without);
    }

    private void standsAs(PaperCutter with, PaperCutter without) {
        same(Look.stock(with), Look.stock(without));
        same(Look.aside(with), Look.aside(without));
        same(Look.past(with), Look.past(without));
    }

    private static String place() {
        return StackWalker.getInstance().walk(frames -> frames
            .filter(f -> !f.getClassName().equals("Edges"))
            .findFirst().map(f -> f.getFileName() + ":" + f.getLineNumber()).orElse("")) + ":";
    }

    // ---- stock for the tests

    /** An order without tolerance that takes its own grade alone. */
    static int order(PaperCutter x, int grade, int width, int amount) {
        return x.addOrder(grade, width, amount, 0, 0, 0);
    }

    /** A roll of 200 and an order of 50, and runs of one strip with the lengths 1, 2, 3 and so on. */
    static PaperCutter withRuns(int runs) {
        PaperCutter x = new PaperCutter();
        x.addRoll(0, 200, 200);
        order(x, 0, 50, 500);
        for (int i = 1; i <= runs; i++) {
            Checks.run(x, "1x0", 0, i);
        }
        return x;
    }

    static PaperCutter withOrders(int orders) {
        PaperCutter x = new PaperCutter();
        for (int i = 0; i < orders; i++) {
            order(x, 0, 10 + i, 1 + i);
        }
        return x;
    }

    static PaperCutter withRolls(int rolls) {
        PaperCutter x = new PaperCutter();
        for (int i = 0; i < rolls; i++) {
            x.addRoll(0, 50 + i, 1 + i);
        }
        return x;
    }

    /** Something of all that a refused call might touch: a snapshot, changes, a written text and a reason. */
    static PaperCutter busy() {
        PaperCutter x = new PaperCutter();
        x.addRoll(1, 200, 90);
        x.addRoll(0, 120, 40);
        x.addOrder(1, 50, 60, 10, 4, 1);
        x.addOrder(2, 30, 70, 0, 2, 1);
        Checks.run(x, "2x0", 0, 5);
        x.save();
        Checks.run(x, "1x1+1x0", 0, 7);
        Checks.run(x, "1x0", 1, 3);
        x.keep(1);
        x.write(1);
        Checks.execute(x, "cut 9");
        return x;
    }

    /** The same with a text that was begun. */
    static PaperCutter typing() {
        PaperCutter x = busy();
        Checks.type(x, "1x");
        return x;
    }
}
