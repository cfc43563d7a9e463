/** The edges of promises 27 to 29: forecasts, accounts and numbers of grades. */
final class AccountEdges extends Edges {
    AccountEdges(Checks checks, Sentences sentences) {
        super(checks, sentences);
    }

    @Override
    void all() {
        forecasts();
        accounts();
        grades();
    }

    // ---- promise 27

    private void forecasts() {
        test(27, "Returns what cutting all would lead to.", this::asCutAll);
        test(27, "Nothing changes.", this::nothingChanges);
        test(27, "`what`: 0 the runs that would be made; 1 the orders that would be met; 2 the waste of all runs, 3"
            + " the sum of all setups, 4 the area that would be left on all rolls", this::eachForecast);
        test(27, "Returns the number; BAD if there is no such what.", this::noForecast);
    }

    private void asCutAll(PaperCutter x) {
        for (int runs = 0; runs <= 16; runs += 4) {
            PaperCutter y = withRuns(runs);
            order(y, 0, 60, 7);
            y.addRoll(0, 130, 9);
            int[] told = new int[5];
            for (int what = 0; what < 5; what++) {
                told[what] = y.ifAll(what);
            }
            due("cuts behind " + runs, y.cutAll(), told[0]);
            due("met behind " + runs, y.account(6), told[1]);
            due("waste behind " + runs, y.account(2), told[2]);
            due("setups behind " + runs, y.account(4), told[3]);
            due("left behind " + runs, y.account(3), told[4]);
            due("16 runs at most", told[0] + runs <= 16 ? 1 : 0, 1);
        }
        PaperCutter z = busy();
        int told = z.ifAll(0);
        int area = z.ifAll(4);
        due(z.cutAll(), told);
        due(z.account(3), area);
        due(told > 1 ? 1 : 0, 1);
    }

    private void nothingChanges(PaperCutter x) {
        PaperCutter with = typing();
        for (int what = -1; what <= 5; what++) {
            with.ifAll(what);
        }
        same(Look.stock(with), Look.stock(typing()));
        same(Look.aside(with), Look.aside(typing()));
        same(Look.reasons(with), Look.reasons(typing()));
        same(Look.past(with), Look.past(typing()));
    }

    private void eachForecast(PaperCutter x) {
        x.addRoll(0, 106, 10);
        order(x, 0, 50, 9);
        order(x, 0, 101, 9);
        each(what -> x.ifAll(what), 2, 1, 4 * 6 + 56, 3 + 0, 5 * 106, BAD);
        Checks.run(x, "1x0", 0, 9);
        each(what -> x.ifAll(what), 0, 1, 9 * 56, 2, 106, BAD);
        each(what -> new PaperCutter().ifAll(what), 0, 0, 0, 0, 0, BAD);
        each(what -> withRuns(16).ifAll(what), 0, 0, 136 * 150, 2, 64 * 200, BAD);
    }

    private void noForecast(PaperCutter x) {
        due(x.ifAll(-1), BAD);
        due(x.ifAll(5), BAD);
        far(BAD, what -> x.ifAll(what));
        due(x.ifAll(4), 0);
        refused(BAD, Edges::typing, y -> y.ifAll(5));
        refused(BAD, Edges::typing, y -> y.ifAll(-1));
    }

    // ---- promise 28

    private void accounts() {
        test(28, "`what`: 0 the area of all rolls that are no remnants; 1 the area made for orders, that is, the sum"
            + " of their widths times what is made; 2 the waste of all runs; 3 the area left on all rolls, that is,"
            + " the sum of their widths times what is left; 4 the sum of all setups; 5 the area of all kept remnants;"
            + " 6 the number of orders that are met; 7 the number of runs; 8 the number of rolls; 9 the number of"
            + " orders", this::eachAccount);
        test(28, "The area of a roll or a remnant is its width times its length.", this::areas);
        test(28, "Returns an account.", this::fullAccounts);
        test(28, "Returns the account; BAD if there is no such what.", this::noAccount);
    }

    private void eachAccount(PaperCutter x) {
        each(what -> x.account(what), 0, 0, 0, 0, 0, 0, 0, 0, 0, 0, BAD);
        x.addRoll(0, 200, 10);
        x.addRoll(1, 100, 20);
        x.addOrder(0, 50, 10, 20, 0, 0);
        x.addOrder(1, 40, 10, 0, 0, 0);
        each(what -> x.account(what), 4000, 0, 0, 4000, 0, 0, 0, 0, 2, 2, BAD);
        Checks.run(x, "2x0", 0, 4);
        Checks.run(x, "1x1", 1, 9);
        each(what -> x.account(what), 4000, 8 * 50 + 9 * 40, 400 + 540, 6 * 200 + 11 * 100, 3 + 6, 0, 1, 2, 2, 2, BAD);
        x.keep(1);
        each(what -> x.account(what), 4000, 8 * 50 + 9 * 40, 400 + 54, 6 * 200 + 11 * 100 + 9 * 54, 9, 9 * 54,
            1, 2, 3, 2, BAD);
        Checks.run(x, "1x1", 2, 1);
        each(what -> x.account(what), 4000, 800, 400 + 54 + 14, 6 * 200 + 11 * 100 + 8 * 54, 9, 9 * 54, 2, 3, 3, 2,
            BAD);
        due(x.account(1) + x.account(2) + x.account(3), x.account(0));
    }

    private void areas(PaperCutter x) {
        x.addRoll(0, 50, 1);
        due(x.account(0), 50);
        due(x.grade(0, 3), 50);
        x.addRoll(0, 300, 999);
        due(x.account(0), 50 + 299700);
        x.addRoll(0, 76, 1);
        order(x, 0, 60, 999);
        Checks.run(x, "1x0", 2, 1);
        x.set(2, 10);
        x.keep(0);
        due(x.account(5), 10);
        Checks.run(x, "1x0", 1, 998);
        x.keep(1);
        due(x.account(5), 10 + 998 * 234);
        due(x.account(0), 50 + 299700 + 76);
    }

    private void fullAccounts(PaperCutter x) {
        for (int i = 0; i < 12; i++) {
            x.addRoll(i % 4, 300, 999);
        }
        for (int o = 0; o < 8; o++) {
            x.addOrder(o % 4, 150, 999, 50, 0, 1);
        }
        due(x.account(0), 12 * 299700);
        due(x.account(3), 12 * 299700);
        due(x.account(8), 12);
        due(x.account(9), 8);
        due(x.cutAll(), 8);
        due(x.account(6), 8);
        due(x.account(7), 8);
        due(x.account(1), 8 * 999 * 150);
        due(x.account(2), 8 * 999 * 150);
        due(x.account(3), 4 * 299700);
        PaperCutter y = withRuns(16);
        each(what -> y.account(what), 40000, 136 * 50, 136 * 150, 64 * 200, 2, 0, 0, 16, 1, 1);
        y.keep(15);
        y.keep(0);
        due(y.account(5), 17 * 144);
        due(y.account(2), 119 * 150 + 17 * 6);
        y.undo();
        y.undo();
        y.undo();
        due(y.account(5), 0);
        due(y.account(7), 15);
    }

    private void noAccount(PaperCutter x) {
        due(x.account(-1), BAD);
        due(x.account(10), BAD);
        due(x.account(9), 0);
        far(BAD, what -> x.account(what));
        refused(BAD, Edges::typing, y -> y.account(10));
        refused(BAD, Edges::typing, y -> y.account(-1));
    }

    // ---- promise 29

    private void grades() {
        test(29, "`what`: 0 the number of its orders; 1 the number of its orders that are met; 2 the number of its"
            + " rolls of which something is left; 3 the area that is left on its rolls; 4 the waste of the runs of"
            + " its rolls; 5 what was made of its rolls for orders of worse grades, as a sum of areas",
            this::eachOfGrade);
        test(29, "Returns a number of a grade.", this::eachGrade);
        test(29, "5 what was made of its rolls for orders of worse grades, as a sum of areas", this::fullOfGrade);
        test(29, "Returns the number; BAD if there is no such grade or what.", this::noGrade);
    }

    private void eachOfGrade(PaperCutter x) {
        x.addRoll(1, 200, 10);
        x.addRoll(1, 100, 5);
        x.addOrder(1, 50, 10, 0, 0, 1);
        x.addOrder(2, 40, 10, 0, 0, 1);
        x.addOrder(3, 30, 10, 0, 0, 1);
        each(what -> x.grade(1, what), 1, 0, 2, 2500, 0, 0, BAD);
        Checks.run(x, "1x0+1x1+2x2", 0, 5);
        each(what -> x.grade(1, what), 1, 0, 2, 1500, 250, 5 * 40 + 10 * 30, BAD);
        each(what -> x.grade(3, what), 1, 1, 0, 0, 0, 0, BAD);
        Checks.run(x, "1x0", 1, 4);
        each(what -> x.grade(1, what), 1, 0, 2, 1100, 450, 500, BAD);
        Checks.run(x, "1x0", 1, 1);
        each(what -> x.grade(1, what), 1, 1, 1, 1000, 500, 500, BAD);
        x.keep(0);
        each(what -> x.grade(1, what), 1, 1, 2, 1000 + 5 * 44, 280, 500, BAD);
        each(what -> x.grade(2, what), 1, 0, 0, 0, 0, 0, BAD);
    }

    private void eachGrade(PaperCutter x) {
        for (int grade = 0; grade < 4; grade++) {
            x.addRoll(grade, 60 + 10 * grade, 9);
            for (int better = 0; better < 2; better++) {
                x.addOrder(grade, 50, 5 + grade, 0, 0, better);
            }
        }
        Checks.run(x, "1x0", 0, 5);
        Checks.run(x, "1x7", 0, 1);
        Checks.run(x, "1x7", 2, 2);
        Checks.run(x, "1x7", 3, 5);
        int[][] dues = {{2, 1, 1, 180, 60, 50}, {2, 0, 1, 630, 0, 0}, {2, 0, 1, 560, 60, 100}, {2, 1, 1, 360, 200, 0}};
        for (int grade = 0; grade < 4; grade++) {
            int of = grade;
            each(what -> x.grade(of, what), dues[grade]);
        }
    }

    private void fullOfGrade(PaperCutter x) {
        x.addRoll(0, 200, 20);
        x.addOrder(1, 50, 17, 0, 0, 1);
        Checks.run(x, "1x0", 0, 16);
        for (int run = 0; run < 15; run++) {
            x.split(run, 1);
        }
        due(x.account(7), 16);
        each(what -> x.grade(0, what), 0, 0, 1, 4 * 200, 16 * 150, 16 * 50, BAD);
        each(what -> x.grade(1, what), 1, 0, 0, 0, 0, 0, BAD);
        each(what -> withRolls(12).grade(0, what), 0, 0, 12, 4472, 0, 0, BAD);
        each(what -> withOrders(8).grade(0, what), 8, 0, 0, 0, 0, 0, BAD);
    }

    private void noGrade(PaperCutter x) {
        due(x.grade(-1, 0), BAD);
        due(x.grade(4, 0), BAD);
        due(x.grade(3, 5), 0);
        due(x.grade(3, 6), BAD);
        due(x.grade(0, -1), BAD);
        due(x.grade(4, 6), BAD);
        far(BAD, grade -> x.grade(grade, 0));
        far(BAD, what -> x.grade(0, what));
        refused(BAD, Edges::typing, y -> y.grade(4, 0));
        refused(BAD, Edges::typing, y -> y.grade(0, 6));
    }
}
