import java.util.ArrayDeque;
import java.util.ArrayList;
import java.util.Comparator;
import java.util.Deque;
import java.util.List;
import java.util.TreeSet;
import java.util.regex.Matcher;
import java.util.regex.Pattern;

/** The document once more, in another way: slow, with lists of records, whole enumerations and regular expressions. */
final class Model {
    record Order(int grade, int width, int amount, int tolerance, int due, int better) {
        int allowance() {
            return (int) Math.floor(amount * tolerance / 100.0);
        }
    }

    record Roll(int grade, int width, int length, boolean bought) { }

    record Run(int roll, int length, int edge, int kept, List<Integer> strips) { }

    record State(int knives, int edge, int leastWidth, List<Order> orders, List<Roll> rolls, List<Run> runs) {
        State withOrders(List<Order> to) {
            return new State(knives, edge, leastWidth, to, rolls, runs);
        }

        State withRolls(List<Roll> to) {
            return new State(knives, edge, leastWidth, orders, to, runs);
        }

        State withRuns(List<Run> to) {
            return new State(knives, edge, leastWidth, orders, rolls, to);
        }
    }

    private static final String NUMBER = " [0-9]{1,3}";
    private static final String COMMAND = "(order(" + NUMBER + "){5}( better)?|roll(" + NUMBER + "){3}|cut" + NUMBER
        + "|all|arrange" + NUMBER + ")";
    private static final Pattern COMMANDS = Pattern.compile(COMMAND + "(;" + COMMAND + ")*");
    private static final Pattern STRIPS = Pattern.compile("[1-9]x[0-9](\\+[1-9]x[0-9])*");
    private static final List<String> WORDS = List.of("order", "roll", "cut", "all", "arrange", "better");

    private State now = new State(6, 3, 20, List.of(), List.of(), List.of());
    private State snapshot = null;
    private final Deque<State> past = new ArrayDeque<>();
    private String text = "";
    private String pattern = "";
    private int reasonCode = -5;
    private int reasonCommand = -5;

    // ---- helpers

    private int change(State to, int answer) {
        past.addLast(now);
        if (past.size() > 8) {
            past.removeFirst();
        }
        now = to;
        return answer;
    }

    private static <T> List<T> with(List<T> list, T more) {
        List<T> longer = new ArrayList<>(list);
        longer.add(more);
        return longer;
    }

    private static boolean has(List<?> list, int i) {
        return 0 <= i && i < list.size();
    }

    private static boolean between(int low, int v, int high) {
        return low <= v && v <= high;
    }

    private static int made(State s, int o) {
        return s.runs.stream().mapToInt(r -> r.strips.get(o) * r.length).sum();
    }

    private static int room(State s, int o) {
        return s.orders.get(o).amount + s.orders.get(o).allowance() - made(s, o);
    }

    private static boolean met(State s, int o) {
        return made(s, o) >= s.orders.get(o).amount - s.orders.get(o).allowance();
    }

    private static int met(State s) {
        int n = 0;
        for (int o = 0; o < s.orders.size(); o++) {
            n += met(s, o) ? 1 : 0;
        }
        return n;
    }

    private static int left(State s, int roll) {
        return s.rolls.get(roll).length - s.runs.stream().filter(r -> r.roll == roll).mapToInt(Run::length).sum();
    }

    private static boolean usable(Roll roll, Order order) {
        return order.better == 1 ? roll.grade <= order.grade : roll.grade == order.grade;
    }

    private static int sum(List<Integer> strips) {
        return strips.stream().mapToInt(n -> n).sum();
    }

    private static int rest(State s, int roll, List<Integer> strips) {
        int rest = s.rolls.get(roll).width;
        for (int o = 0; o < s.orders.size(); o++) {
            rest -= s.orders.get(o).width * strips.get(o);
        }
        return rest;
    }

    private static int rest(State s, Run run) {
        return rest(s, run.roll, run.strips);
    }

    private static int knives(int strips, int rest) {
        return rest == 0 ? strips - 1 : strips + 1;
    }

    private static int remnantWidth(State s, Run run) {
        return rest(s, run) - 2 * run.edge;
    }

    private static int waste(State s, Run run) {
        int area = run.length * rest(s, run);
        return run.kept >= 0 ? area - remnantWidth(s, run) * run.length : area;
    }

    private static List<Integer> positions(State s, Run run) {
        int width = s.rolls.get(run.roll).width;
        TreeSet<Integer> places = new TreeSet<>();
        int at = rest(s, run) == 0 ? 0 : run.edge;
        places.add(at);
        for (int o = 0; o < s.orders.size(); o++) {
            for (int n = 0; n < run.strips.get(o); n++) {
                at += s.orders.get(o).width;
                places.add(at);
            }
        }
        if (rest(s, run) == 0) {
            places.remove(0);
            places.remove(width);
        }
        return new ArrayList<>(places);
    }

    private static int setup(State s, Run run, Run ahead) {
        List<Integer> places = positions(s, run);
        if (ahead == null) {
            return places.size();
        }
        places.removeAll(positions(s, ahead));
        return places.size() + (s.rolls.get(run.roll).grade == s.rolls.get(ahead.roll).grade ? 0 : 5);
    }

    private static int setups(State s, List<Run> runs) {
        int sum = 0;
        for (int r = 0; r < runs.size(); r++) {
            sum += setup(s, runs.get(r), r == 0 ? null : runs.get(r - 1));
        }
        return sum;
    }

    private static List<List<Integer>> candidates(State s, int roll) {
        List<List<Integer>> rows = new ArrayList<>();
        grow(s, roll, List.of(), 0, 0, rows);
        rows.removeIf(row -> sum(row) == 0 || rest(s, roll, row) < 2 * s.edge
            || knives(sum(row), rest(s, roll, row)) > s.knives);
        return rows;
    }

    private static void grow(State s, int roll, List<Integer> row, int strips, int used, List<List<Integer>> rows) {
        int o = row.size();
        if (o == s.orders.size()) {
            rows.add(row);
            return;
        }
        int width = s.orders.get(o).width;
        boolean usable = usable(s.rolls.get(roll), s.orders.get(o)) && made(s, o) < s.orders.get(o).amount;
        int most = usable ? room(s, o) : 0;
        for (int n = 0; n <= most && used + n * width <= s.rolls.get(roll).width && strips + n <= 8; n++) {
            grow(s, roll, with(row, n), strips + n, used + n * width, rows);
        }
    }

    private static List<Integer> bestRow(State s, int roll) {
        if (left(s, roll) < 1) {
            return null;
        }
        Comparator<List<Integer>> order = Comparator.comparingInt((List<Integer> row) -> rest(s, roll, row))
            .thenComparingInt(Model::sum)
            .thenComparing((a, b) -> lexicographic(b, a));
        return candidates(s, roll).stream().min(order).orElse(null);
    }

    private static int lexicographic(List<Integer> a, List<Integer> b) {
        for (int i = 0; i < a.size(); i++) {
            if (!a.get(i).equals(b.get(i))) {
                return Integer.compare(a.get(i), b.get(i));
            }
        }
        return 0;
    }

    private static int bestLength(State s, int roll, List<Integer> row) {
        int length = 0;
        while (length < left(s, roll)) {
            for (int o = 0; o < row.size(); o++) {
                if (row.get(o) * (length + 1) > room(s, o) && row.get(o) > 0) {
                    return length;
                }
            }
            length++;
        }
        return length;
    }

    private static State afterCut(State s, int roll) {
        List<Integer> row = bestRow(s, roll);
        return s.withRuns(with(s.runs, new Run(roll, bestLength(s, roll, row), s.edge, -5, row8(row))));
    }

    private static List<Integer> row8(List<Integer> row) {
        List<Integer> all = new ArrayList<>(row);
        while (all.size() < 8) {
            all.add(0);
        }
        return all;
    }

    private static State afterAll(State s) {
        while (s.runs.size() < 16) {
            int chosen = -1;
            int lowest = Integer.MAX_VALUE;
            for (int roll = 0; roll < s.rolls.size(); roll++) {
                List<Integer> row = bestRow(s, roll);
                if (row != null && key(s, roll, row) < lowest) {
                    chosen = roll;
                    lowest = key(s, roll, row);
                }
            }
            if (chosen < 0) {
                return s;
            }
            s = afterCut(s, chosen);
        }
        return s;
    }

    private static int key(State s, int roll, List<Integer> row) {
        return rest(s, roll, row) * 1000 + s.rolls.get(roll).width;
    }

    private static int areaLeft(State s, int grade) {
        int area = 0;
        for (int roll = 0; roll < s.rolls.size(); roll++) {
            if (grade < 0 || s.rolls.get(roll).grade == grade) {
                area += s.rolls.get(roll).width * left(s, roll);
            }
        }
        return area;
    }

    private static int waste(State s) {
        return s.runs.stream().mapToInt(r -> waste(s, r)).sum();
    }

    // ---- settings, orders, rolls

    int set(int what, int v) {
        State s = now;
        if (what == 0 && between(2, v, 7)) {
            return change(new State(v, s.edge, s.leastWidth, s.orders, s.rolls, s.runs), s.knives);
        }
        if (what == 1 && between(0, v, 20)) {
            return change(new State(s.knives, v, s.leastWidth, s.orders, s.rolls, s.runs), s.edge);
        }
        if (what == 2 && between(10, v, 99)) {
            return change(new State(s.knives, s.edge, v, s.orders, s.rolls, s.runs), s.leastWidth);
        }
        return -2;
    }

    int addOrder(int grade, int width, int amount, int tolerance, int due, int better) {
        if (!between(0, grade, 3) || !between(10, width, 150) || !between(1, amount, 999)
            || !between(0, tolerance, 50) || !between(0, due, 99) || !between(0, better, 1)) {
            return -2;
        }
        if (now.orders.size() == 8) {
            return -3;
        }
        Order order = new Order(grade, width, amount, tolerance, due, better);
        return change(now.withOrders(with(now.orders, order)), now.orders.size());
    }

    int addRoll(int grade, int width, int length) {
        if (!between(0, grade, 3) || !between(50, width, 300) || !between(1, length, 999)) {
            return -2;
        }
        if (now.rolls.size() == 12) {
            return -3;
        }
        return change(now.withRolls(with(now.rolls, new Roll(grade, width, length, true))), now.rolls.size());
    }

    int order(int order, int what) {
        if (!has(now.orders, order)) {
            return -1;
        }
        if (!between(0, what, 11)) {
            return -2;
        }
        Order o = now.orders.get(order);
        int runs = (int) now.runs.stream().filter(r -> r.strips.get(order) > 0).count();
        return new int[] {o.grade, o.width, o.amount, o.tolerance, o.due, o.better, o.amount - o.allowance(),
            o.amount + o.allowance(), made(now, order), room(now, order), met(now, order) ? 1 : 0, runs}[what];
    }

    int roll(int roll, int what) {
        if (!has(now.rolls, roll)) {
            return -1;
        }
        if (!between(0, what, 5)) {
            return -2;
        }
        Roll r = now.rolls.get(roll);
        int source = -5;
        int runs = 0;
        for (int i = 0; i < now.runs.size(); i++) {
            source = now.runs.get(i).kept == roll ? i : source;
            runs += now.runs.get(i).roll == roll ? 1 : 0;
        }
        return new int[] {r.grade, r.width, r.length, left(now, roll), runs, source}[what];
    }

    int ranked(int rank) {
        List<Integer> numbers = new ArrayList<>();
        for (int o = 0; o < now.orders.size(); o++) {
            numbers.add(o);
        }
        numbers.sort(Comparator.comparingInt((Integer o) -> now.orders.get(o).due)
            .thenComparingInt(o -> -now.orders.get(o).width).thenComparingInt(o -> o));
        return has(numbers, rank) ? numbers.get(rank) : -1;
    }

    int explain(int order) {
        if (!has(now.orders, order)) {
            return -1;
        }
        if (met(now, order)) {
            return 0;
        }
        Order o = now.orders.get(order);
        int usable = 0;
        int wide = 0;
        int given = 0;
        for (int roll = 0; roll < now.rolls.size(); roll++) {
            Roll r = now.rolls.get(roll);
            if (left(now, roll) == 0 || !usable(r, o)) {
                continue;
            }
            usable++;
            int most = 0;
            for (int n = 1; n * o.width + 2 * now.edge <= r.width; n++) {
                most = knives(n, r.width - n * o.width) <= now.knives ? n : most;
            }
            wide += most > 0 ? 1 : 0;
            given += most * left(now, roll);
        }
        int lacking = o.amount - o.allowance() - made(now, order);
        return usable == 0 ? 1 : wide == 0 ? 2 : given < lacking ? 3 : 4;
    }

    int append(int code) {
        if (!between(32, code, 126)) {
            return -2;
        }
        if (text.length() == 80) {
            return -3;
        }
        text += (char) code;
        return text.length();
    }

    // ---- patterns

    int best(int roll, int what) {
        if (!has(now.rolls, roll)) {
            return -1;
        }
        if (!between(0, what, 3) && !(what >= 10 && what < 10 + now.orders.size())) {
            return -2;
        }
        List<Integer> row = bestRow(now, roll);
        if (row == null) {
            return -5;
        }
        int rest = rest(now, roll, row);
        return what == 0 ? rest : what == 1 ? sum(row) : what == 2 ? knives(sum(row), rest)
            : what == 3 ? bestLength(now, roll, row) : row.get(what - 10);
    }

    int again(int roll) {
        return best(roll, 0);
    }

    int patterns(int roll) {
        return has(now.rolls, roll) ? candidates(now, roll).size() : -1;
    }

    // ---- runs

    /** The fault position by the words of the document, or -1. */
    private static int fault(String text, Pattern language, boolean words) {
        Matcher whole = language.matcher(text);
        if (whole.matches()) {
            return -1;
        }
        int fault = 0;
        while (fault < text.length() && canContinue(text.substring(0, fault + 1), language)) {
            fault++;
        }
        if (!words) {
            return fault;
        }
        int start = fault;
        while (start > 0 && text.charAt(start - 1) >= 'a' && text.charAt(start - 1) <= 'z') {
            start--;
        }
        int end = start;
        while (end < text.length() && text.charAt(end) >= 'a' && text.charAt(end) <= 'z') {
            end++;
        }
        return WORDS.contains(text.substring(start, end)) ? fault : start;
    }

    private static boolean canContinue(String text, Pattern language) {
        Matcher m = language.matcher(text);
        return m.matches() || m.hitEnd();
    }

    int run(int roll, int length) {
        String read = text;
        text = "";
        if (!has(now.rolls, roll)) {
            return -1;
        }
        if (length < 1) {
            return -2;
        }
        int fault = fault(read, STRIPS, false);
        if (fault >= 0) {
            return -1000 - fault;
        }
        int[] strips = new int[10];
        for (String part : read.split("\\+")) {
            strips[part.charAt(2) - '0'] += part.charAt(0) - '0';
        }
        int reason = refusal(roll, length, strips);
        if (reason != 0) {
            reasonCode = reason;
            reasonCommand = -5;
            return -4;
        }
        List<Integer> row = new ArrayList<>();
        for (int o = 0; o < 8; o++) {
            row.add(strips[o]);
        }
        Run run = new Run(roll, length, now.edge, -5, row);
        return change(now.withRuns(with(now.runs, run)), now.runs.size());
    }

    private int refusal(int roll, int length, int[] strips) {
        boolean[] applies = new boolean[8];
        applies[1] = now.runs.size() == 16;
        int rest = now.rolls.get(roll).width;
        int sum = 0;
        for (int o = 0; o < 10; o++) {
            if (strips[o] > 0 && o >= now.orders.size()) {
                applies[2] = true;
            } else if (strips[o] > 0) {
                applies[3] |= !usable(now.rolls.get(roll), now.orders.get(o));
                applies[7] |= (long) strips[o] * length > room(now, o);
                rest -= strips[o] * now.orders.get(o).width;
                sum += strips[o];
            }
        }
        applies[4] = rest < 2 * now.edge;
        applies[5] = knives(sum, rest) > now.knives;
        applies[6] = length > left(now, roll);
        for (int reason = 1; reason <= 7; reason++) {
            if (applies[reason]) {
                return reason;
            }
        }
        return 0;
    }

    int cut(int roll) {
        if (!has(now.rolls, roll)) {
            return -1;
        }
        if (now.runs.size() == 16) {
            return -3;
        }
        if (bestRow(now, roll) == null) {
            return -5;
        }
        return change(afterCut(now, roll), now.runs.size());
    }

    int cutAll() {
        State to = afterAll(now);
        return change(to, to.runs.size() - now.runs.size());
    }

    int remove(int run) {
        if (!has(now.runs, run)) {
            return -1;
        }
        if (now.runs.get(run).kept >= 0) {
            return -4;
        }
        List<Run> runs = new ArrayList<>(now.runs);
        runs.remove(run);
        return change(now.withRuns(runs), runs.size());
    }

    int made(int run, int what) {
        if (!has(now.runs, run)) {
            return -1;
        }
        Run r = now.runs.get(run);
        Run ahead = run == 0 ? null : now.runs.get(run - 1);
        if (between(0, what, 8)) {
            return new int[] {r.roll, r.length, sum(r.strips), rest(now, r), positions(now, r).size(),
                setup(now, r, ahead), waste(now, r), r.kept, remnantWidth(now, r)}[what];
        }
        return what >= 10 && what < 10 + now.orders.size() ? r.strips.get(what - 10) : -2;
    }

    int position(int run, int k) {
        if (!has(now.runs, run)) {
            return -1;
        }
        List<Integer> places = positions(now, now.runs.get(run));
        return has(places, k) ? places.get(k) : -1;
    }

    int setup(int run, int before) {
        if (!has(now.runs, run) || run == before || (before != -1 && !has(now.runs, before))) {
            return -1;
        }
        return setup(now, now.runs.get(run), before == -1 ? null : now.runs.get(before));
    }

    int swap(int one, int other) {
        if (!has(now.runs, one) || !has(now.runs, other)) {
            return -1;
        }
        List<Run> runs = new ArrayList<>(now.runs);
        runs.set(one, now.runs.get(other));
        runs.set(other, now.runs.get(one));
        return change(now.withRuns(runs), setups(now, runs));
    }

    int split(int run, int length) {
        if (!has(now.runs, run)) {
            return -1;
        }
        Run r = now.runs.get(run);
        if (length < 1 || length >= r.length) {
            return -2;
        }
        if (r.kept >= 0) {
            return -4;
        }
        if (now.runs.size() == 16) {
            return -3;
        }
        List<Run> runs = new ArrayList<>(now.runs);
        runs.set(run, new Run(r.roll, length, r.edge, r.kept, r.strips));
        runs.add(run + 1, new Run(r.roll, r.length - length, r.edge, r.kept, r.strips));
        return change(now.withRuns(runs), run + 1);
    }

    int write(int run) {
        if (!has(now.runs, run)) {
            return -1;
        }
        List<String> parts = new ArrayList<>();
        for (int o = 0; o < 8; o++) {
            if (now.runs.get(run).strips.get(o) > 0) {
                parts.add(now.runs.get(run).strips.get(o) + "x" + o);
            }
        }
        pattern = String.join("+", parts);
        return pattern.length();
    }

    int written(int k) {
        return k >= 0 && k < pattern.length() ? pattern.charAt(k) : -1;
    }

    int arrange(int way) {
        if (way != 0 && way != 1) {
            return -2;
        }
        if (way == 1 && now.runs.size() > 7) {
            return -4;
        }
        List<Run> runs = way == 0 ? greedy() : leastOrder();
        return change(now.withRuns(runs), setups(now, runs));
    }

    private List<Run> greedy() {
        List<Run> open = new ArrayList<>(now.runs);
        List<Run> chain = new ArrayList<>();
        while (!open.isEmpty()) {
            int best = 0;
            Run ahead = chain.isEmpty() ? null : chain.get(chain.size() - 1);
            for (int i = 1; i < open.size(); i++) {
                best = setup(now, open.get(i), ahead) < setup(now, open.get(best), ahead) ? i : best;
            }
            chain.add(open.remove(best));
        }
        return chain;
    }

    private List<Run> leastOrder() {
        int n = now.runs.size();
        int[][] setups = new int[n + 1][n];
        for (int r = 0; r < n; r++) {
            for (int b = -1; b < n; b++) {
                setups[b + 1][r] = setup(now, now.runs.get(r), b < 0 ? null : now.runs.get(b));
            }
        }
        int[] row = new int[n];
        for (int i = 0; i < n; i++) {
            row[i] = i;
        }
        int[] best = row.clone();
        do {
            best = sum(setups, row) < sum(setups, best) ? row.clone() : best;
        } while (nextPermutation(row));
        List<Run> runs = new ArrayList<>();
        for (int r : best) {
            runs.add(now.runs.get(r));
        }
        return runs;
    }

    private static int sum(int[][] setups, int[] row) {
        int sum = 0;
        for (int i = 0; i < row.length; i++) {
            sum += setups[i == 0 ? 0 : row[i - 1] + 1][row[i]];
        }
        return sum;
    }

    private static boolean nextPermutation(int[] row) {
        int i = row.length - 2;
        while (i >= 0 && row[i] > row[i + 1]) {
            i--;
        }
        if (i < 0) {
            return false;
        }
        int k = row.length - 1;
        while (row[k] < row[i]) {
            k--;
        }
        int kept = row[i];
        row[i] = row[k];
        row[k] = kept;
        java.util.Arrays.sort(row, i + 1, row.length);
        return true;
    }

    int leastSetups() {
        return now.runs.size() > 7 ? -4 : setups(now, leastOrder());
    }

    int keep(int run) {
        if (!has(now.runs, run)) {
            return -1;
        }
        Run r = now.runs.get(run);
        int width = remnantWidth(now, r);
        if (r.kept >= 0 || width < now.leastWidth) {
            return -4;
        }
        if (now.rolls.size() == 12) {
            return -3;
        }
        int roll = now.rolls.size();
        List<Run> runs = new ArrayList<>(now.runs);
        runs.set(run, new Run(r.roll, r.length, r.edge, roll, r.strips));
        Roll remnant = new Roll(now.rolls.get(r.roll).grade, width, r.length, false);
        return change(now.withRolls(with(now.rolls, remnant)).withRuns(runs), roll);
    }

    // ---- forecasts and accounts

    int ifAll(int what) {
        if (!between(0, what, 4)) {
            return -2;
        }
        State to = afterAll(now);
        return new int[] {to.runs.size() - now.runs.size(), met(to), waste(to), setups(to, to.runs),
            areaLeft(to, -1)}[what];
    }

    int account(int what) {
        if (!between(0, what, 9)) {
            return -2;
        }
        int bought = now.rolls.stream().filter(Roll::bought).mapToInt(r -> r.width * r.length).sum();
        int kept = now.rolls.stream().filter(r -> !r.bought).mapToInt(r -> r.width * r.length).sum();
        int madeArea = 0;
        for (int o = 0; o < now.orders.size(); o++) {
            madeArea += made(now, o) * now.orders.get(o).width;
        }
        return new int[] {bought, madeArea, waste(now), areaLeft(now, -1), setups(now, now.runs), kept, met(now),
            now.runs.size(), now.rolls.size(), now.orders.size()}[what];
    }

    int grade(int grade, int what) {
        if (!between(0, grade, 3) || !between(0, what, 5)) {
            return -2;
        }
        int[] answers = new int[6];
        for (int o = 0; o < now.orders.size(); o++) {
            if (now.orders.get(o).grade == grade) {
                answers[0]++;
                answers[1] += met(now, o) ? 1 : 0;
            }
        }
        for (int roll = 0; roll < now.rolls.size(); roll++) {
            answers[2] += now.rolls.get(roll).grade == grade && left(now, roll) > 0 ? 1 : 0;
        }
        answers[3] = areaLeft(now, grade);
        for (Run run : now.runs) {
            if (now.rolls.get(run.roll).grade != grade) {
                continue;
            }
            answers[4] += waste(now, run);
            for (int o = 0; o < now.orders.size(); o++) {
                Order order = now.orders.get(o);
                answers[5] += order.grade > grade ? order.width * run.strips.get(o) * run.length : 0;
            }
        }
        return answers[what];
    }

    // ---- texts, undo and snapshot

    int execute() {
        String read = text;
        text = "";
        int fault = fault(read, COMMANDS, true);
        if (fault >= 0) {
            return -1000 - fault;
        }
        State start = now;
        List<State> earlier = new ArrayList<>(past);
        String[] commands = read.split(";");
        for (int n = 0; n < commands.length; n++) {
            int answer = carryOut(commands[n].split(" "));
            if (answer < 0) {
                restart(start, earlier);
                reasonCode = answer;
                reasonCommand = n;
                return -4;
            }
        }
        State end = now;
        restart(start, earlier);
        return change(end, commands.length);
    }

    private void restart(State start, List<State> earlier) {
        now = start;
        past.clear();
        past.addAll(earlier);
    }

    private int carryOut(String[] parts) {
        int[] n = new int[6];
        for (int i = 1; i < parts.length; i++) {
            n[i - 1] = parts[i].equals("better") ? 1 : Integer.parseInt(parts[i]);
        }
        return switch (parts[0]) {
            case "order" -> addOrder(n[0], n[1], n[2], n[3], n[4], n[5]);
            case "roll" -> addRoll(n[0], n[1], n[2]);
            case "cut" -> cut(n[0]);
            case "all" -> cutAll();
            default -> arrange(n[0]);
        };
    }

    int reason(int what) {
        return what == 0 ? reasonCode : what == 1 ? reasonCommand : -2;
    }

    int undo() {
        if (past.isEmpty()) {
            return -5;
        }
        now = past.removeLast();
        return past.size();
    }

    int save() {
        snapshot = now;
        return now.runs.size();
    }

    int restore() {
        if (snapshot == null) {
            return -5;
        }
        now = snapshot;
        past.clear();
        return now.runs.size();
    }

    int count(int what) {
        return between(0, what, 4)
            ? new int[] {past.size(), text.length(), now.knives, now.edge, now.leastWidth}[what] : -2;
    }
}
