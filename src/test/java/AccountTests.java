/** Promises 27 to 29: forecasts, accounts and numbers of grades. */
final class AccountTests {
    private final Checks c;

    private AccountTests(Checks checks) {
        c = checks;
    }

    static void all(Checks checks) {
        AccountTests t = new AccountTests(checks);
        t.ifAll();
        t.account();
        t.grade();
    }

    private static PaperCutter mill() {
        PaperCutter x = new PaperCutter();
        x.addRoll(0, 100, 10);
        x.addRoll(1, 200, 30);
        x.addRoll(1, 80, 20);
        x.addOrder(0, 40, 10, 0, 0, 0);
        x.addOrder(1, 60, 40, 25, 0, 1);
        x.addOrder(2, 50, 20, 0, 0, 1);
        return x;
    }

    private void ifAll() {
        PaperCutter x = mill();
        c.due("27: no what", x.ifAll(5), -2);
        c.due("27: no what", x.ifAll(-1), -2);
        x.save();
        int[] answers = new int[5];
        for (int what = 0; what < 5; what++) {
            answers[what] = x.ifAll(what);
        }
        c.due("27: nothing changes", x.account(7), 0);
        c.due("27: nothing changes", x.account(3), 8600);
        c.due("27: no change", x.count(0), 6);
        c.due("27: runs", x.cutAll(), answers[0]);
        c.due("27: met", x.account(6), answers[1]);
        c.due("27: waste", x.account(2), answers[2]);
        c.due("27: setups", x.account(4), answers[3]);
        c.due("27: left", x.account(3), answers[4]);
        c.due("27: runs", answers[0], 5);
        c.due("27: met", answers[1], 3);
        c.due("27: no more runs", x.ifAll(0), 0);
        c.due("27: as they are", x.ifAll(2), x.account(2));
    }

    private void account() {
        PaperCutter x = mill();
        Checks.run(x, "2x0", 0, 5);
        Checks.run(x, "1x1+1x2", 1, 20);
        c.due("28: keep", x.keep(1), 3);
        Checks.run(x, "1x1", 3, 15);
        // The remnant of run 1 is 84 wide and 20 long.
        int[] dues = {1000 + 6000 + 1600, 40 * 10 + 60 * 35 + 50 * 20, 5 * 20 + 20 * 6 + 15 * 24,
            5 * 100 + 10 * 200 + 1600 + 5 * 84, 3 + 7 + 0, 84 * 20, 3, 3, 4, 3};
        for (int what = 0; what < dues.length; what++) {
            c.due("28: account(" + what + ")", x.account(what), dues[what]);
        }
        c.due("28: no what", x.account(10), -2);
        c.due("28: no what", x.account(-1), -2);
        c.due("28: adds up", x.account(1) + x.account(2) + x.account(3), x.account(0));
    }

    private void grade() {
        PaperCutter x = mill();
        Checks.run(x, "1x0+1x2", 0, 10);
        Checks.run(x, "1x1+1x2", 1, 10);
        Checks.run(x, "1x1", 2, 20);
        int[][] dues = {{1, 1, 0, 0, 100, 500}, {1, 1, 1, 4000, 900 + 400, 500}, {1, 1, 0, 0, 0, 0},
            {0, 0, 0, 0, 0, 0}};
        for (int grade = 0; grade < 4; grade++) {
            for (int what = 0; what < 6; what++) {
                c.due("29: grade(" + grade + ", " + what + ")", x.grade(grade, what), dues[grade][what]);
            }
        }
        x.remove(0);
        c.due("29: no longer met", x.grade(0, 1), 0);
        c.due("29: left", x.grade(0, 2), 1);
        c.due("29: no grade", x.grade(4, 0), -2);
        c.due("29: no grade", x.grade(-1, 0), -2);
        c.due("29: no what", x.grade(0, 6), -2);
        c.due("29: no what", x.grade(0, -1), -2);
    }
}
