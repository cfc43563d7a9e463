/** All that can be asked of a planner, as a text, to see what a call has left unchanged. */
final class Look {
    private Look() {
    }

    /** The settings, orders, rolls and runs. */
    static String stock(PaperCutter x) {
        StringBuilder s = new StringBuilder("settings");
        for (int what = 2; what <= 4; what++) {
            s.append(' ').append(x.count(what));
        }
        int orders = x.account(9);
        for (int o = 0; o < orders; o++) {
            s.append("; order");
            for (int what : new int[] {0, 1, 2, 3, 4, 5, 8}) {
                s.append(' ').append(x.order(o, what));
            }
        }
        int rolls = x.account(8);
        for (int r = 0; r < rolls; r++) {
            s.append("; roll");
            for (int what : new int[] {0, 1, 2, 3, 5}) {
                s.append(' ').append(x.roll(r, what));
            }
        }
        int runs = x.account(7);
        for (int r = 0; r < runs; r++) {
            run(x, r, orders, s);
        }
        return s.toString();
    }

    private static void run(PaperCutter x, int run, int orders, StringBuilder s) {
        s.append("; run");
        for (int what : new int[] {0, 1, 3, 5, 7, 8}) {
            s.append(' ').append(x.made(run, what));
        }
        for (int o = 0; o < orders; o++) {
            s.append(o == 0 ? " of " : "+").append(x.made(run, 10 + o));
        }
        s.append(" from ").append(x.position(run, 0));
    }

    /** What undo and the snapshot do not concern. */
    static String aside(PaperCutter x) {
        return "text of " + x.count(1) + ", written \"" + Checks.written(x) + "\"";
    }

    static String reasons(PaperCutter x) {
        return "reason " + x.reason(0) + " of " + x.reason(1);
    }

    /** What undo and restore bring back; this uses up the changes. */
    static String past(PaperCutter x) {
        StringBuilder s = new StringBuilder("changes");
        for (int i = 0; i < 9; i++) {
            s.append("; ").append(x.undo()).append(':').append(brief(x));
        }
        return s.append("; snapshot ").append(x.restore()).append(':').append(brief(x)).toString();
    }

    private static String brief(PaperCutter x) {
        return x.account(9) + "," + x.account(8) + "," + x.account(7) + "," + x.account(3) + "," + x.count(3);
    }
}
