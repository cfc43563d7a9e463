import java.util.Arrays;

/** A planner for a paper mill; README.md tells how to use it. */
public final class PaperCutter {
    public static final int NONE = -1;
    public static final int BAD = -2;
    public static final int FULL = -3;
    public static final int REFUSED = -4;
    public static final int NOTHING = -5;

    private static final int MAX_ORDERS = 8;
    private static final int MAX_ROLLS = 12;
    private static final int MAX_RUNS = 16;
    private static final int MAX_ARRANGED = 7;
    private static final int MAX_UNDO = 8;
    private static final int MAX_TEXT = 80;
    private static final int MAX_WIDTH = 300;
    private static final int GRADES = 4;

    // Seven knives cut eight strips when nothing is left over, and no pattern has more.
    private static final int MAX_STRIPS = 8;
    // Each position takes a knife.
    private static final int MAX_POSITIONS = 7;
    // The shortest command and its ";" take four characters.
    private static final int MAX_COMMANDS = MAX_TEXT / 4;
    // Eight orders, each written as 1x0 with a "+" between them.
    private static final int MAX_WRITTEN = 4 * MAX_ORDERS - 1;

    private static final int KNIVES = 0;
    private static final int EDGE = 1;
    private static final int LEAST_WIDTH = 2;
    private static final int SETTINGS = 3;
    private static final int[] FIRST_SETTING = {6, 3, 20};
    private static final int[] LOWEST_SETTING = {2, 0, 10};
    private static final int[] HIGHEST_SETTING = {7, 20, 99};

    // Above every number of strips, and every sum of setups of seven runs.
    private static final int TOO_MANY = 1000;
    private static final int GRADE_CHANGE = 5;
    private static final int WRONG_TEXT = -1000;
    private static final int STRIPS_OF = 10;

    private static final int WORD_ORDER = 0;
    private static final int WORD_ROLL = 1;
    private static final int WORD_CUT = 2;
    private static final int WORD_ALL = 3;
    private static final int WORD_ARRANGE = 4;
    private static final int WORDS = 5;

    private final Plan plan = new Plan();
    private final Plan earlier = new Plan();
    private final Plan trial = new Plan();
    private final Plan saved = new Plan();
    private final Plan[] past = new Plan[MAX_UNDO];
    private final Search search = new Search();
    private final Arranger arranger = new Arranger();
    private final Text text = new Text();
    private final char[] writtenSigns = new char[MAX_WRITTEN];
    private int writtenLength = 0;
    private int pastFirst = 0;
    private int pastCount = 0;
    private boolean hasSaved = false;
    private int reasonCode = NOTHING;
    private int reasonCommand = NOTHING;

    public PaperCutter() {
        for (int i = 0; i < MAX_UNDO; i++) {
            past[i] = new Plan();
        }
    }

    // ---- settings, orders, rolls

    public int set(int what, int v) {
        earlier.copyFrom(plan);
        return settled(plan.changeSetting(what, v));
    }

    public int addOrder(int grade, int width, int amount, int tolerance, int due, int better) {
        earlier.copyFrom(plan);
        return settled(plan.putOrder(grade, width, amount, tolerance, due, better));
    }

    public int addRoll(int grade, int width, int length) {
        earlier.copyFrom(plan);
        return settled(plan.putRoll(grade, width, length));
    }

    public int order(int order, int what) {
        if (!plan.hasOrder(order)) {
            return NONE;
        }
        Order it = plan.orders[order];
        switch (what) {
            case 0: return it.grade;
            case 1: return it.width;
            case 2: return it.amount;
            case 3: return it.tolerance;
            case 4: return it.due;
            case 5: return it.better;
            case 6: return it.least;
            case 7: return it.greatest;
            case 8: return plan.madeFor(order);
            case 9: return plan.roomOf(order);
            case 10: return plan.isMet(order) ? 1 : 0;
            case 11: return plan.runsFor(order);
            default: return BAD;
        }
    }

    public int roll(int roll, int what) {
        if (!plan.hasRoll(roll)) {
            return NONE;
        }
        Roll it = plan.rolls[roll];
        switch (what) {
            case 0: return it.grade;
            case 1: return it.width;
            case 2: return it.length;
            case 3: return plan.leftOf(roll);
            case 4: return plan.runsOf(roll);
            case 5: return plan.sourceOf(roll);
            default: return BAD;
        }
    }

    public int ranked(int rank) {
        for (int o = 0; o < plan.orderCount; o++) {
            if (plan.rankOf(o) == rank) {
                return o;
            }
        }
        return NONE;
    }

    public int explain(int order) {
        return plan.hasOrder(order) ? plan.whyNotMet(order) : NONE;
    }

    // ---- patterns

    public int append(int code) {
        return text.add(code);
    }

    public int best(int roll, int what) {
        if (!plan.hasRoll(roll)) {
            return NONE;
        }
        boolean stripsAsked = plan.hasOrder(what - STRIPS_OF);
        if (!stripsAsked && (what < 0 || what > 3)) {
            return BAD;
        }
        if (!plan.findBest(roll, search)) {
            return NOTHING;
        }
        switch (what) {
            case 0: return search.bestRest;
            case 1: return search.bestStrips;
            case 2: return knivesFor(search.bestStrips, search.bestRest);
            case 3: return plan.greatestLength(roll, search.bestRow);
            default: return stripsAsked ? search.bestRow[what - STRIPS_OF] : BAD;
        }
    }

    public int again(int roll) {
        if (!plan.hasRoll(roll)) {
            return NONE;
        }
        if (plan.leftOf(roll) < 1) {
            return NOTHING;
        }
        plan.describe(roll, search);
        return search.leastRestBySums();
    }

    public int patterns(int roll) {
        if (!plan.hasRoll(roll)) {
            return NONE;
        }
        plan.describe(roll, search);
        return search.seek(true);
    }

    // ---- runs

    public int run(int roll, int length) {
        boolean right = text.readPattern();
        text.empty();
        if (!plan.hasRoll(roll)) {
            return NONE;
        }
        if (length < 1) {
            return BAD;
        }
        if (!right) {
            return WRONG_TEXT - text.at;
        }
        int refusal = plan.refusalOf(roll, length, text.strips);
        if (refusal != 0) {
            reasonCode = refusal;
            reasonCommand = NOTHING;
            return REFUSED;
        }
        earlier.copyFrom(plan);
        return settled(plan.makeRun(roll, length, text.strips));
    }

    public int cut(int roll) {
        earlier.copyFrom(plan);
        return settled(plan.cutRoll(roll, search));
    }

    public int cutAll() {
        earlier.copyFrom(plan);
        return settled(plan.cutEverything(search));
    }

    public int remove(int run) {
        earlier.copyFrom(plan);
        return settled(plan.takeOut(run));
    }

    public int made(int run, int what) {
        if (!plan.hasRun(run)) {
            return NONE;
        }
        Run it = plan.runs[run];
        switch (what) {
            case 0: return it.roll;
            case 1: return it.length;
            case 2: return stripsIn(it.strips);
            case 3: return it.rest;
            case 4: return it.positionCount;
            case 5: return plan.setupBehind(run, run - 1);
            case 6: return it.waste();
            case 7: return it.kept;
            case 8: return it.remnantWidth();
            default: return plan.hasOrder(what - STRIPS_OF) ? it.strips[what - STRIPS_OF] : BAD;
        }
    }

    public int position(int run, int k) {
        if (!plan.hasRun(run)) {
            return NONE;
        }
        Run it = plan.runs[run];
        return k >= 0 && k < it.positionCount ? it.positions[k] : NONE;
    }

    public int setup(int run, int before) {
        if (!plan.hasRun(run) || run == before) {
            return NONE;
        }
        if (before != -1 && !plan.hasRun(before)) {
            return NONE;
        }
        return plan.setupBehind(run, before);
    }

    public int swap(int one, int other) {
        earlier.copyFrom(plan);
        return settled(plan.exchange(one, other));
    }

    public int split(int run, int length) {
        earlier.copyFrom(plan);
        return settled(plan.divide(run, length));
    }

    public int write(int run) {
        if (!plan.hasRun(run)) {
            return NONE;
        }
        int[] strips = plan.runs[run].strips;
        writtenLength = 0;
        for (int o = 0; o < MAX_ORDERS; o++) {
            if (strips[o] > 0) {
                writeStrips(strips[o], o);
            }
        }
        return writtenLength;
    }

    public int written(int k) {
        return k >= 0 && k < writtenLength ? writtenSigns[k] : NONE;
    }

    public int arrange(int way) {
        earlier.copyFrom(plan);
        return settled(plan.putInOrder(way, arranger));
    }

    public int leastSetups() {
        if (plan.runCount > MAX_ARRANGED) {
            return REFUSED;
        }
        arranger.look(plan);
        return arranger.leastBySets();
    }

    public int keep(int run) {
        earlier.copyFrom(plan);
        return settled(plan.keepRemnant(run));
    }

    // ---- forecasts and accounts

    public int ifAll(int what) {
        if (what < 0 || what > 4) {
            return BAD;
        }
        trial.copyFrom(plan);
        int cuts = trial.cutEverything(search);
        switch (what) {
            case 0: return cuts;
            case 1: return trial.ordersMet();
            case 2: return trial.wasteOfAll();
            case 3: return trial.sumOfSetups();
            default: return trial.areaLeft();
        }
    }

    public int account(int what) {
        switch (what) {
            case 0: return plan.areaOfRolls();
            case 1: return plan.areaMade();
            case 2: return plan.wasteOfAll();
            case 3: return plan.areaLeft();
            case 4: return plan.sumOfSetups();
            case 5: return plan.areaKept();
            case 6: return plan.ordersMet();
            case 7: return plan.runCount;
            case 8: return plan.rollCount;
            case 9: return plan.orderCount;
            default: return BAD;
        }
    }

    public int grade(int grade, int what) {
        if (!inRange(grade, 0, GRADES - 1)) {
            return BAD;
        }
        switch (what) {
            case 0: return plan.ordersOfGrade(grade);
            case 1: return plan.metOfGrade(grade);
            case 2: return plan.rollsLeftOfGrade(grade);
            case 3: return plan.areaLeftOfGrade(grade);
            case 4: return plan.wasteOfGrade(grade);
            case 5: return plan.areaForWorse(grade);
            default: return BAD;
        }
    }

    // ---- texts, undo and snapshot

    public int execute() {
        boolean right = text.readCommands();
        text.empty();
        if (!right) {
            return WRONG_TEXT - text.at;
        }
        earlier.copyFrom(plan);
        for (int n = 0; n < text.commandCount; n++) {
            int[] given = text.commands[n].numbers;
            int answer;
            switch (text.commands[n].word) {
                case WORD_ORDER:
                    answer = plan.putOrder(given[0], given[1], given[2], given[3], given[4], given[5]);
                    break;
                case WORD_ROLL:
                    answer = plan.putRoll(given[0], given[1], given[2]);
                    break;
                case WORD_CUT:
                    answer = plan.cutRoll(given[0], search);
                    break;
                case WORD_ALL:
                    answer = plan.cutEverything(search);
                    break;
                default:
                    answer = plan.putInOrder(given[0], arranger);
                    break;
            }
            if (answer < 0) {
                plan.copyFrom(earlier);
                reasonCode = answer;
                reasonCommand = n;
                return REFUSED;
            }
        }
        return settled(text.commandCount);
    }

    public int reason(int what) {
        if (what != 0 && what != 1) {
            return BAD;
        }
        return what == 0 ? reasonCode : reasonCommand;
    }

    public int undo() {
        if (pastCount == 0) {
            return NOTHING;
        }
        pastCount--;
        plan.copyFrom(past[(pastFirst + pastCount) % MAX_UNDO]);
        return pastCount;
    }

    public int save() {
        saved.copyFrom(plan);
        hasSaved = true;
        return plan.runCount;
    }

    public int restore() {
        if (!hasSaved) {
            return NOTHING;
        }
        plan.copyFrom(saved);
        pastCount = 0;
        return plan.runCount;
    }

    public int count(int what) {
        switch (what) {
            case 0: return pastCount;
            case 1: return text.length;
            case 2: return plan.settings[KNIVES];
            case 3: return plan.settings[EDGE];
            case 4: return plan.settings[LEAST_WIDTH];
            default: return BAD;
        }
    }

    // ---- what the calls share

    /** Keeps the plan as it was before a successful change, so that it can be undone. */
    private int settled(int answer) {
        if (answer < 0) {
            return answer;
        }
        if (pastCount == MAX_UNDO) {
            pastFirst = (pastFirst + 1) % MAX_UNDO;
            pastCount--;
        }
        past[(pastFirst + pastCount) % MAX_UNDO].copyFrom(earlier);
        pastCount++;
        return answer;
    }

    private void writeStrips(int strips, int order) {
        if (writtenLength > 0) {
            writeSign('+');
        }
        writeSign((char) ('0' + strips));
        writeSign('x');
        writeSign((char) ('0' + order));
    }

    private void writeSign(char sign) {
        if (writtenLength < MAX_WRITTEN) {
            writtenSigns[writtenLength] = sign;
            writtenLength++;
        }
    }

    private static boolean inRange(int v, int low, int high) {
        return v >= low && v <= high;
    }

    private static int knivesFor(int strips, int rest) {
        return rest == 0 ? strips - 1 : strips + 1;
    }

    private static int stripsIn(int[] strips) {
        int sum = 0;
        for (int n : strips) {
            sum += n;
        }
        return sum;
    }

    /** An order, as it was added. */
    private static final class Order {
        private int grade;
        private int width;
        private int amount;
        private int tolerance;
        private int due;
        private int better;
        private int least;
        private int greatest;

        private void copyFrom(Order from) {
            grade = from.grade;
            width = from.width;
            amount = from.amount;
            tolerance = from.tolerance;
            due = from.due;
            better = from.better;
            least = from.least;
            greatest = from.greatest;
        }

        private boolean isAheadOf(Order other) {
            return due != other.due ? due < other.due : width > other.width;
        }
    }

    /** A roll in stock, bought or kept as a remnant. */
    private static final class Roll {
        private int grade;
        private int width;
        private int length;

        private void copyFrom(Roll from) {
            grade = from.grade;
            width = from.width;
            length = from.length;
        }

        private boolean canBeUsedFor(Order order) {
            return grade == order.grade || (grade < order.grade && order.better == 1);
        }
    }

    /** A run keeps its edge and its positions, as settings may change after it was made. */
    private static final class Run {
        private int roll;
        private int length;
        private int edge;
        private int rest;
        private int kept;
        private int positionCount;
        private final int[] strips = new int[MAX_ORDERS];
        private final int[] positions = new int[MAX_POSITIONS];

        private void copyFrom(Run from) {
            roll = from.roll;
            length = from.length;
            edge = from.edge;
            rest = from.rest;
            kept = from.kept;
            positionCount = from.positionCount;
            System.arraycopy(from.strips, 0, strips, 0, MAX_ORDERS);
            System.arraycopy(from.positions, 0, positions, 0, MAX_POSITIONS);
        }

        private void addPosition(int place) {
            if (positionCount < MAX_POSITIONS) {
                positions[positionCount] = place;
                positionCount++;
            }
        }

        private boolean isKept() {
            return kept >= 0;
        }

        private int remnantWidth() {
            return rest - 2 * edge;
        }

        private int waste() {
            return length * (isKept() ? rest - remnantWidth() : rest);
        }

        /** The number of positions that the other run doesn't have. */
        private int positionsBeyond(Run other) {
            int beyond = positionCount;
            for (int i = 0; i < positionCount; i++) {
                for (int k = 0; k < other.positionCount; k++) {
                    if (positions[i] == other.positions[k]) {
                        beyond--;
                    }
                }
            }
            return beyond;
        }
    }

    /** The settings, orders, rolls and runs at one moment: what undo and the snapshot bring back. */
    private static final class Plan {
        private final int[] settings = FIRST_SETTING.clone();
        private final Order[] orders = new Order[MAX_ORDERS];
        private final Roll[] rolls = new Roll[MAX_ROLLS];
        private final Run[] runs = new Run[MAX_RUNS];
        private int orderCount = 0;
        private int rollCount = 0;
        private int runCount = 0;

        private Plan() {
            for (int i = 0; i < MAX_ORDERS; i++) {
                orders[i] = new Order();
            }
            for (int i = 0; i < MAX_ROLLS; i++) {
                rolls[i] = new Roll();
            }
            for (int i = 0; i < MAX_RUNS; i++) {
                runs[i] = new Run();
            }
        }

        private void copyFrom(Plan from) {
            System.arraycopy(from.settings, 0, settings, 0, SETTINGS);
            orderCount = from.orderCount;
            rollCount = from.rollCount;
            runCount = from.runCount;
            for (int i = 0; i < orderCount; i++) {
                orders[i].copyFrom(from.orders[i]);
            }
            for (int i = 0; i < rollCount; i++) {
                rolls[i].copyFrom(from.rolls[i]);
            }
            for (int i = 0; i < runCount; i++) {
                runs[i].copyFrom(from.runs[i]);
            }
        }

        private boolean hasOrder(int order) {
            return order >= 0 && order < orderCount;
        }

        private boolean hasRoll(int roll) {
            return roll >= 0 && roll < rollCount;
        }

        private boolean hasRun(int run) {
            return run >= 0 && run < runCount;
        }

        // ---- changes of settings, orders and rolls

        private int changeSetting(int what, int v) {
            if (what < 0 || what >= SETTINGS) {
                return BAD;
            }
            if (!inRange(v, LOWEST_SETTING[what], HIGHEST_SETTING[what])) {
                return BAD;
            }
            int previous = settings[what];
            settings[what] = v;
            return previous;
        }

        private int putOrder(int grade, int width, int amount, int tolerance, int due, int better) {
            boolean right = inRange(grade, 0, GRADES - 1) && inRange(width, 10, 150)
                && inRange(amount, 1, 999) && inRange(tolerance, 0, 50)
                && inRange(due, 0, 99) && inRange(better, 0, 1);
            if (!right) {
                return BAD;
            }
            if (orderCount >= MAX_ORDERS) {
                return FULL;
            }
            Order order = orders[orderCount];
            int allowance = amount * tolerance / 100;
            order.grade = grade;
            order.width = width;
            order.amount = amount;
            order.tolerance = tolerance;
            order.due = due;
            order.better = better;
            order.least = amount - allowance;
            order.greatest = amount + allowance;
            orderCount++;
            return orderCount - 1;
        }

        private int putRoll(int grade, int width, int length) {
            boolean right = inRange(grade, 0, GRADES - 1) && inRange(width, 50, MAX_WIDTH)
                && inRange(length, 1, 999);
            if (!right) {
                return BAD;
            }
            return rollCount >= MAX_ROLLS ? FULL : storeRoll(grade, width, length);
        }

        /** Remnants come in here too, as they may be narrower than a roll that is bought. */
        private int storeRoll(int grade, int width, int length) {
            Roll roll = rolls[rollCount];
            roll.grade = grade;
            roll.width = width;
            roll.length = length;
            rollCount++;
            return rollCount - 1;
        }

        // ---- numbers of orders and rolls

        private int madeFor(int order) {
            int sum = 0;
            for (int r = 0; r < runCount; r++) {
                sum += runs[r].strips[order] * runs[r].length;
            }
            return sum;
        }

        private int roomOf(int order) {
            return orders[order].greatest - madeFor(order);
        }

        private boolean isMet(int order) {
            return madeFor(order) >= orders[order].least;
        }

        private int runsFor(int order) {
            int n = 0;
            for (int r = 0; r < runCount; r++) {
                if (runs[r].strips[order] > 0) {
                    n++;
                }
            }
            return n;
        }

        private int rankOf(int order) {
            int rank = 0;
            for (int o = 0; o < orderCount; o++) {
                boolean ahead = orders[o].isAheadOf(orders[order]);
                boolean behind = orders[order].isAheadOf(orders[o]);
                if (ahead || (!behind && o < order)) {
                    rank++;
                }
            }
            return rank;
        }

        private int leftOf(int roll) {
            int left = rolls[roll].length;
            for (int r = 0; r < runCount; r++) {
                if (runs[r].roll == roll) {
                    left -= runs[r].length;
                }
            }
            return left;
        }

        private int runsOf(int roll) {
            int n = 0;
            for (int r = 0; r < runCount; r++) {
                if (runs[r].roll == roll) {
                    n++;
                }
            }
            return n;
        }

        /** The run of which a roll is the remnant, searched for because runs change their numbers. */
        private int sourceOf(int roll) {
            for (int r = 0; r < runCount; r++) {
                if (runs[r].kept == roll) {
                    return r;
                }
            }
            return NOTHING;
        }

        private int whyNotMet(int order) {
            if (isMet(order)) {
                return 0;
            }
            boolean anyLeft = false;
            boolean anyWide = false;
            int reachable = 0;
            for (int r = 0; r < rollCount; r++) {
                int left = leftOf(r);
                if (left > 0 && rolls[r].canBeUsedFor(orders[order])) {
                    int most = mostStripsAlone(rolls[r].width, orders[order].width);
                    anyLeft = true;
                    anyWide = anyWide || most > 0;
                    reachable += most * left;
                }
            }
            if (!anyLeft) {
                return 1;
            }
            if (!anyWide) {
                return 2;
            }
            return reachable < orders[order].least - madeFor(order) ? 3 : 4;
        }

        /** Counts down, as a number that leaves no rest may be possible where a smaller one isn't. */
        private int mostStripsAlone(int width, int stripWidth) {
            for (int n = MAX_STRIPS; n > 0; n--) {
                int rest = width - n * stripWidth;
                if (rest >= 2 * settings[EDGE] && knivesFor(n, rest) <= settings[KNIVES]) {
                    return n;
                }
            }
            return 0;
        }

        // ---- best patterns

        /** Tells the search what patterns for a roll may hold. */
        private void describe(int roll, Search search) {
            search.width = rolls[roll].width;
            search.knives = settings[KNIVES];
            search.leastRest = 2 * settings[EDGE];
            search.orderCount = orderCount;
            for (int o = 0; o < orderCount; o++) {
                search.widths[o] = orders[o].width;
                search.limits[o] = limitOf(o, rolls[roll]);
            }
        }

        private int limitOf(int order, Roll roll) {
            int made = madeFor(order);
            if (made >= orders[order].amount || !roll.canBeUsedFor(orders[order])) {
                return 0;
            }
            return Math.min(MAX_STRIPS, orders[order].greatest - made);
        }

        private boolean findBest(int roll, Search search) {
            if (leftOf(roll) < 1) {
                return false;
            }
            describe(roll, search);
            return search.seek(false) > 0;
        }

        private int greatestLength(int roll, int[] strips) {
            int length = leftOf(roll);
            for (int o = 0; o < orderCount; o++) {
                if (strips[o] > 0) {
                    length = Math.min(length, roomOf(o) / strips[o]);
                }
            }
            return length;
        }

        private int cutRoll(int roll, Search search) {
            if (!hasRoll(roll)) {
                return NONE;
            }
            if (runCount >= MAX_RUNS) {
                return FULL;
            }
            if (!findBest(roll, search)) {
                return NOTHING;
            }
            return makeRun(roll, greatestLength(roll, search.bestRow), search.bestRow);
        }

        private int cutEverything(Search search) {
            int cuts = 0;
            while (cuts < MAX_RUNS && runCount < MAX_RUNS) {
                int roll = rollToCut(search);
                if (roll == NONE) {
                    return cuts;
                }
                cutRoll(roll, search);
                cuts++;
            }
            return cuts;
        }

        private int rollToCut(Search search) {
            int chosen = NONE;
            int leastRest = 0;
            for (int r = 0; r < rollCount; r++) {
                if (findBest(r, search)) {
                    boolean less = chosen == NONE || search.bestRest < leastRest
                        || (search.bestRest == leastRest && rolls[r].width < rolls[chosen].width);
                    if (less) {
                        chosen = r;
                        leastRest = search.bestRest;
                    }
                }
            }
            return chosen;
        }

        // ---- runs

        /** The number of the first reason to refuse a run, or 0; the strips go by the digit of the order. */
        private int refusalOf(int roll, int length, int[] strips) {
            if (runCount >= MAX_RUNS) {
                return 1;
            }
            for (int o = orderCount; o < strips.length; o++) {
                if (strips[o] > 0) {
                    return 2;
                }
            }
            int rest = rolls[roll].width;
            for (int o = 0; o < orderCount; o++) {
                if (strips[o] > 0 && !rolls[roll].canBeUsedFor(orders[o])) {
                    return 3;
                }
                rest -= strips[o] * orders[o].width;
            }
            if (rest < 2 * settings[EDGE]) {
                return 4;
            }
            if (knivesFor(stripsIn(strips), rest) > settings[KNIVES]) {
                return 5;
            }
            if (length > leftOf(roll)) {
                return 6;
            }
            return length > greatestLength(roll, strips) ? 7 : 0;
        }

        private int makeRun(int roll, int length, int[] strips) {
            if (runCount >= MAX_RUNS) {
                return FULL;
            }
            Run run = runs[runCount];
            run.roll = roll;
            run.length = length;
            run.edge = settings[EDGE];
            run.kept = NOTHING;
            System.arraycopy(strips, 0, run.strips, 0, MAX_ORDERS);
            run.rest = rolls[roll].width;
            for (int o = 0; o < orderCount; o++) {
                run.rest -= strips[o] * orders[o].width;
            }
            placeKnives(run);
            runCount++;
            return runCount - 1;
        }

        private void placeKnives(Run run) {
            int place = 0;
            run.positionCount = 0;
            if (run.rest > 0) {
                place = run.edge;
                run.addPosition(place);
            }
            for (int o = 0; o < orderCount; o++) {
                for (int n = 0; n < run.strips[o]; n++) {
                    place += orders[o].width;
                    // Only without a rest does a strip end at the roll's own edge, which needs no knife.
                    if (place < rolls[run.roll].width) {
                        run.addPosition(place);
                    }
                }
            }
        }

        private int takeOut(int run) {
            if (!hasRun(run)) {
                return NONE;
            }
            if (runs[run].isKept()) {
                return REFUSED;
            }
            moveRun(run, runCount - 1);
            runCount--;
            return runCount;
        }

        /** Moves a run to another place, and those between by one. */
        private void moveRun(int from, int to) {
            Run moved = runs[from];
            for (int r = from; r < to; r++) {
                runs[r] = runs[r + 1];
            }
            for (int r = from; r > to; r--) {
                runs[r] = runs[r - 1];
            }
            runs[to] = moved;
        }

        private int exchange(int one, int other) {
            if (!hasRun(one) || !hasRun(other)) {
                return NONE;
            }
            Run moved = runs[one];
            runs[one] = runs[other];
            runs[other] = moved;
            return sumOfSetups();
        }

        private int divide(int run, int length) {
            if (!hasRun(run)) {
                return NONE;
            }
            Run first = runs[run];
            if (length < 1 || length >= first.length) {
                return BAD;
            }
            if (first.isKept()) {
                return REFUSED;
            }
            if (runCount >= MAX_RUNS) {
                return FULL;
            }
            Run second = runs[runCount];
            second.copyFrom(first);
            second.length = first.length - length;
            first.length = length;
            runCount++;
            moveRun(runCount - 1, run + 1);
            return run + 1;
        }

        private int keepRemnant(int run) {
            if (!hasRun(run)) {
                return NONE;
            }
            Run it = runs[run];
            if (it.isKept() || it.remnantWidth() < settings[LEAST_WIDTH]) {
                return REFUSED;
            }
            if (rollCount >= MAX_ROLLS) {
                return FULL;
            }
            it.kept = storeRoll(rolls[it.roll].grade, it.remnantWidth(), it.length);
            return it.kept;
        }

        // ---- setups

        /** The setup of a run behind another one, or as the first one if that is -1. */
        private int setupBehind(int run, int other) {
            if (!hasRun(other)) {
                return runs[run].positionCount;
            }
            boolean sameGrade = rolls[runs[run].roll].grade == rolls[runs[other].roll].grade;
            return runs[run].positionsBeyond(runs[other]) + (sameGrade ? 0 : GRADE_CHANGE);
        }

        private int sumOfSetups() {
            int sum = 0;
            for (int r = 0; r < runCount; r++) {
                sum += setupBehind(r, r - 1);
            }
            return sum;
        }

        private int putInOrder(int way, Arranger arranger) {
            if (way != 0 && way != 1) {
                return BAD;
            }
            if (way == 0) {
                chainRuns();
                return sumOfSetups();
            }
            if (runCount > MAX_ARRANGED) {
                return REFUSED;
            }
            arranger.look(this);
            arranger.seekLeast();
            arranger.reorder(runs);
            return sumOfSetups();
        }

        /** Moving keeps the rest of the runs in their order, so that the first of several has the lowest number. */
        private void chainRuns() {
            for (int place = 0; place < runCount; place++) {
                int next = place;
                for (int r = place + 1; r < runCount; r++) {
                    if (setupBehind(r, place - 1) < setupBehind(next, place - 1)) {
                        next = r;
                    }
                }
                moveRun(next, place);
            }
        }

        // ---- accounts

        private int areaOfRolls() {
            int area = 0;
            for (int r = 0; r < rollCount; r++) {
                if (sourceOf(r) == NOTHING) {
                    area += rolls[r].width * rolls[r].length;
                }
            }
            return area;
        }

        private int areaMade() {
            int area = 0;
            for (int o = 0; o < orderCount; o++) {
                area += orders[o].width * madeFor(o);
            }
            return area;
        }

        private int wasteOfAll() {
            int waste = 0;
            for (int r = 0; r < runCount; r++) {
                waste += runs[r].waste();
            }
            return waste;
        }

        private int areaLeft() {
            int area = 0;
            for (int r = 0; r < rollCount; r++) {
                area += rolls[r].width * leftOf(r);
            }
            return area;
        }

        private int areaKept() {
            int area = 0;
            for (int r = 0; r < runCount; r++) {
                if (runs[r].isKept()) {
                    area += runs[r].remnantWidth() * runs[r].length;
                }
            }
            return area;
        }

        private int ordersMet() {
            int met = 0;
            for (int o = 0; o < orderCount; o++) {
                if (isMet(o)) {
                    met++;
                }
            }
            return met;
        }

        private int ordersOfGrade(int grade) {
            int n = 0;
            for (int o = 0; o < orderCount; o++) {
                if (orders[o].grade == grade) {
                    n++;
                }
            }
            return n;
        }

        private int metOfGrade(int grade) {
            int met = 0;
            for (int o = 0; o < orderCount; o++) {
                if (orders[o].grade == grade && isMet(o)) {
                    met++;
                }
            }
            return met;
        }

        private int rollsLeftOfGrade(int grade) {
            int n = 0;
            for (int r = 0; r < rollCount; r++) {
                if (rolls[r].grade == grade && leftOf(r) > 0) {
                    n++;
                }
            }
            return n;
        }

        private int areaLeftOfGrade(int grade) {
            int area = 0;
            for (int r = 0; r < rollCount; r++) {
                if (rolls[r].grade == grade) {
                    area += rolls[r].width * leftOf(r);
                }
            }
            return area;
        }

        private int wasteOfGrade(int grade) {
            int waste = 0;
            for (int r = 0; r < runCount; r++) {
                if (rolls[runs[r].roll].grade == grade) {
                    waste += runs[r].waste();
                }
            }
            return waste;
        }

        private int areaForWorse(int grade) {
            int area = 0;
            for (int r = 0; r < runCount; r++) {
                if (rolls[runs[r].roll].grade == grade) {
                    area += areaForWorseIn(runs[r], grade);
                }
            }
            return area;
        }

        private int areaForWorseIn(Run run, int grade) {
            int width = 0;
            for (int o = 0; o < orderCount; o++) {
                if (orders[o].grade > grade) {
                    width += run.strips[o] * orders[o].width;
                }
            }
            return width * run.length;
        }
    }

    /** Searches the patterns for one roll, which Plan.describe tells it. */
    private static final class Search {
        private int width;
        private int knives;
        private int leastRest;
        private int orderCount;
        private final int[] widths = new int[MAX_ORDERS];
        private final int[] limits = new int[MAX_ORDERS];
        private final int[] row = new int[MAX_ORDERS];
        private final int[] bestRow = new int[MAX_ORDERS];
        private final int[] widestFrom = new int[MAX_ORDERS + 1];
        private final int[] fewest = new int[MAX_WIDTH + 1];
        private boolean counting;
        private int mostStrips;
        private int found;
        private int bestRest;
        private int bestStrips;

        /** Finds the best pattern, and tells how many were looked at: all of them if they are to be counted. */
        private int seek(boolean toCount) {
            counting = toCount;
            found = 0;
            bestRest = MAX_WIDTH + 1;
            bestStrips = TOO_MANY;
            // One strip more is possible only where no rest is due.
            mostStrips = leastRest == 0 ? knives + 1 : knives - 1;
            Arrays.fill(row, 0);
            widestFrom[orderCount] = 0;
            for (int o = orderCount - 1; o >= 0; o--) {
                widestFrom[o] = Math.max(widestFrom[o + 1], limits[o] > 0 ? widths[o] : 0);
            }
            if (width >= leastRest) {
                tryStrips(this, 0, 0, width);
            }
            return found;
        }

        /** Takes the greatest numbers first, so that of equal rows the first one is the greatest. */
        private static void tryStrips(Search s, int order, int strips, int rest) {
            if (order >= s.orderCount || order >= MAX_ORDERS) {
                s.judge(strips, rest);
                return;
            }
            if (!s.counting && s.isHopeless(order, strips, rest)) {
                return;
            }
            int most = Math.min(s.limits[order], s.mostStrips - strips);
            if (s.widths[order] > 0) {
                most = Math.min(most, (rest - s.leastRest) / s.widths[order]);
            }
            for (int n = most; n >= 0; n--) {
                s.row[order] = n;
                tryStrips(s, order + 1, strips + n, rest - n * s.widths[order]);
            }
        }

        /** Without this, a roll with many narrow orders would take very long. */
        private boolean isHopeless(int order, int strips, int rest) {
            int reachable = rest - (mostStrips - strips) * widestFrom[order];
            return reachable > bestRest || (bestRest == leastRest && strips >= bestStrips);
        }

        private void judge(int strips, int rest) {
            if (strips < 1 || rest < leastRest || knivesFor(strips, rest) > knives) {
                return;
            }
            found++;
            if (rest < bestRest || (rest == bestRest && strips < bestStrips)) {
                bestRest = rest;
                bestStrips = strips;
                System.arraycopy(row, 0, bestRow, 0, MAX_ORDERS);
            }
        }

        private int leastRestBySums() {
            Arrays.fill(fewest, TOO_MANY);
            fewest[0] = 0;
            for (int o = 0; o < orderCount; o++) {
                reachSums(widths[o], limits[o]);
            }
            for (int sum = width - leastRest; sum >= 1; sum--) {
                if (knivesFor(fewest[sum], width - sum) <= knives) {
                    return width - sum;
                }
            }
            return NOTHING;
        }

        /** Goes down, so that the smaller sums are still those without this order. */
        private void reachSums(int strip, int limit) {
            for (int sum = width; sum >= strip; sum--) {
                for (int n = 1; n <= limit && n * strip <= sum; n++) {
                    fewest[sum] = Math.min(fewest[sum], fewest[sum - n * strip] + n);
                }
            }
        }
    }

    /** Finds the least sum of setups of at most seven runs, in two ways. */
    private static final class Arranger {
        private static final int SETS = 1 << MAX_ARRANGED;

        private int runCount;
        // Row 0 is for no run ahead, row b + 1 for run b.
        private final int[][] setups = new int[MAX_ARRANGED + 1][MAX_ARRANGED];
        private final int[] sequence = new int[MAX_ARRANGED];
        private final int[] bestSequence = new int[MAX_ARRANGED];
        private final int[] least = new int[SETS * MAX_ARRANGED];
        private final Run[] moved = new Run[MAX_ARRANGED];
        private int leastSum;

        private void look(Plan plan) {
            runCount = Math.min(plan.runCount, MAX_ARRANGED);
            for (int b = -1; b < runCount; b++) {
                for (int r = 0; r < runCount; r++) {
                    setups[b + 1][r] = plan.setupBehind(r, b);
                }
            }
        }

        private void seekLeast() {
            leastSum = TOO_MANY;
            trySequences(this, 0, 0, 0);
        }

        /** Goes through the sequences in lexicographic order, so that the first of several least ones stays. */
        private static void trySequences(Arranger a, int place, int taken, int sum) {
            if (sum >= a.leastSum) {
                return;
            }
            if (place >= a.runCount || place >= MAX_ARRANGED) {
                a.leastSum = sum;
                System.arraycopy(a.sequence, 0, a.bestSequence, 0, MAX_ARRANGED);
                return;
            }
            int ahead = place == 0 ? 0 : a.sequence[place - 1] + 1;
            for (int r = 0; r < a.runCount; r++) {
                if ((taken & (1 << r)) == 0) {
                    a.sequence[place] = r;
                    trySequences(a, place + 1, taken | (1 << r), sum + a.setups[ahead][r]);
                }
            }
        }

        private void reorder(Run[] runs) {
            for (int r = 0; r < runCount; r++) {
                moved[r] = runs[bestSequence[r]];
            }
            for (int r = 0; r < runCount; r++) {
                runs[r] = moved[r];
            }
        }

        private int leastBySets() {
            int all = (1 << runCount) - 1;
            for (int set = 1; set <= all; set++) {
                for (int last = 0; last < runCount; last++) {
                    if ((set & (1 << last)) != 0) {
                        least[set * MAX_ARRANGED + last] = leastWithLast(set, last);
                    }
                }
            }
            return runCount == 0 ? 0 : leastOf(all, -1);
        }

        private int leastWithLast(int set, int last) {
            int others = set & ~(1 << last);
            return others == 0 ? setups[0][last] : leastOf(others, last);
        }

        /** The least sum for a set of runs, with one more run behind them unless that is -1. */
        private int leastOf(int set, int next) {
            int lowest = TOO_MANY;
            for (int last = 0; last < runCount; last++) {
                if ((set & (1 << last)) != 0) {
                    int behind = next < 0 ? 0 : setups[last + 1][next];
                    lowest = Math.min(lowest, least[set * MAX_ARRANGED + last] + behind);
                }
            }
            return lowest;
        }
    }

    /** A command that was read, its numbers in the order of the method's arguments. */
    private static final class Command {
        private int word;
        private final int[] numbers = new int[6];
    }

    /** The text; a reading that fails stops at the fault position. */
    private static final class Text {
        private final char[] signs = new char[MAX_TEXT];
        private int length = 0;
        private int at = 0;
        private final int[] strips = new int[10];
        private final Command[] commands = new Command[MAX_COMMANDS];
        private int commandCount = 0;

        private Text() {
            for (int i = 0; i < MAX_COMMANDS; i++) {
                commands[i] = new Command();
            }
        }

        private int add(int code) {
            if (!inRange(code, 32, 126)) {
                return BAD;
            }
            if (length >= MAX_TEXT) {
                return FULL;
            }
            signs[length] = (char) code;
            length++;
            return length;
        }

        private void empty() {
            length = 0;
        }

        private boolean stands(char sign) {
            return at < length && signs[at] == sign;
        }

        private static boolean isDigit(char sign) {
            return sign >= '0' && sign <= '9';
        }

        // ---- patterns: strips, "x", order and "+" take turns, a character each

        private boolean readPattern() {
            Arrays.fill(strips, 0);
            for (at = 0; at < length; at++) {
                if (!fitsPattern(at % 4, signs[at])) {
                    return false;
                }
                if (at % 4 == 2) {
                    strips[signs[at] - '0'] += signs[at - 2] - '0';
                }
            }
            return length % 4 == 3;
        }

        private static boolean fitsPattern(int turn, char sign) {
            switch (turn) {
                case 0: return isDigit(sign) && sign != '0';
                case 1: return sign == 'x';
                case 2: return isDigit(sign);
                default: return sign == '+';
            }
        }

        // ---- commands

        private boolean readCommands() {
            at = 0;
            commandCount = 0;
            while (commandCount < MAX_COMMANDS) {
                if (!readCommand(commands[commandCount])) {
                    return false;
                }
                commandCount++;
                if (at == length) {
                    return true;
                }
                if (!stands(';')) {
                    return false;
                }
                at++;
            }
            // So many commands fill the text, and the last ";" has nothing behind it.
            return false;
        }

        private boolean readCommand(Command command) {
            int word = wordHere();
            if (word == NONE) {
                return false;
            }
            command.word = word;
            at += nameOf(word).length();
            for (int n = 0; n < numbersOf(word); n++) {
                if (!readNumber(command, n)) {
                    return false;
                }
            }
            return word != WORD_ORDER || readBetter(command);
        }

        private int wordHere() {
            for (int word = 0; word < WORDS; word++) {
                if (isHere(nameOf(word))) {
                    return word;
                }
            }
            return NONE;
        }

        /** True if the word at this place, with all small letters that follow, is the given one. */
        private boolean isHere(String word) {
            int end = at;
            while (end < length && signs[end] >= 'a' && signs[end] <= 'z') {
                end++;
            }
            if (end - at != word.length()) {
                return false;
            }
            for (int i = at; i < end; i++) {
                if (signs[i] != word.charAt(i - at)) {
                    return false;
                }
            }
            return true;
        }

        private static String nameOf(int word) {
            switch (word) {
                case WORD_ORDER: return "order";
                case WORD_ROLL: return "roll";
                case WORD_CUT: return "cut";
                case WORD_ALL: return "all";
                default: return "arrange";
            }
        }

        private static int numbersOf(int word) {
            switch (word) {
                case WORD_ORDER: return 5;
                case WORD_ROLL: return 3;
                case WORD_ALL: return 0;
                default: return 1;
            }
        }

        private boolean readNumber(Command command, int n) {
            if (!stands(' ')) {
                return false;
            }
            at++;
            int value = 0;
            int digits = 0;
            while (digits < 3 && at < length && isDigit(signs[at])) {
                value = 10 * value + (signs[at] - '0');
                at++;
                digits++;
            }
            command.numbers[n] = value;
            return digits > 0;
        }

        private boolean readBetter(Command command) {
            command.numbers[5] = 0;
            if (!stands(' ')) {
                return true;
            }
            at++;
            if (!isHere("better")) {
                return false;
            }
            at += "better".length();
            command.numbers[5] = 1;
            return true;
        }
    }
}
