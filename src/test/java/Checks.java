/** Counts the answers that are as due and those that are not. */
final class Checks {
    private int passed = 0;
    private int failed = 0;

    void due(String what, long got, long want) {
        if (got == want) {
            passed++;
            return;
        }
        failed++;
        if (failed <= 50) {
            System.out.println(what + " answered " + got + ", due is " + want);
        }
    }

    void holds(String what, boolean it) {
        due(what, it ? 1 : 0, 1);
    }

    void same(String what, String got, String want) {
        if (got.equals(want)) {
            passed++;
            return;
        }
        failed++;
        if (failed <= 50) {
            System.out.println(what + " answered \"" + got + "\", due is \"" + want + "\"");
        }
    }

    int count() {
        return passed + failed;
    }

    boolean report() {
        System.out.println(passed + " passed, " + failed + " failed");
        return failed == 0;
    }

    /** Appends a text and answers its length then. */
    static int type(PaperCutter x, String text) {
        int length = x.count(1);
        for (char sign : text.toCharArray()) {
            length = x.append(sign);
        }
        return length;
    }

    static int execute(PaperCutter x, String text) {
        type(x, text);
        return x.execute();
    }

    static int run(PaperCutter x, String pattern, int roll, int length) {
        type(x, pattern);
        return x.run(roll, length);
    }

    /** Splits pieces of the length 1 off a run, until there are as many runs as wanted. */
    static void splitUntil(PaperCutter x, int run, int runs) {
        for (int i = 0; i < 16 && x.account(7) < runs; i++) {
            x.split(run, x.made(run, 1) - 1);
        }
    }

    static String written(PaperCutter x) {
        StringBuilder signs = new StringBuilder();
        for (int k = 0; k < 99 && x.written(k) != PaperCutter.NONE; k++) {
            signs.append((char) x.written(k));
        }
        return signs.toString();
    }

    static String positions(PaperCutter x, int run) {
        StringBuilder places = new StringBuilder();
        for (int k = 0; k < 99 && x.position(run, k) != PaperCutter.NONE; k++) {
            places.append(x.position(run, k)).append(' ');
        }
        return places.toString().trim();
    }
}
