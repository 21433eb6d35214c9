import java.util.ArrayList;
import java.util.HashSet;
import java.util.List;
import java.util.Set;
import java.util.TreeSet;

/**
 * The document read word by word, by brute force: every choice of rows, every text of a plan. It is
 * slow on purpose and shares nothing with JoinWays, so that both seldom err in the same way.
 */
final class Model {
    static final int NONE = -1, UNKNOWN = -101, OUTSIDE = -102, STATE = -103, FULL = -104;

    static final class Table {
        final TreeSet<Integer> letters = new TreeSet<>();
        int bits;
        int per;
        final List<int[]> rows = new ArrayList<>();
    }

    /** A plan of a set (as bits) with what it costs; order is its letter, or NONE. */
    record Plan(String text, int tables, long cost, int order, boolean done, int steps) {
    }

    final List<Table> tables = new ArrayList<>();
    final StringBuilder page = new StringBuilder();
    int wide = 2;
    int memory = 3;
    int choices = 0;

    // ---- tables

    int table(int letters, int per) {
        if (letters < 1 || letters > 255 || Integer.bitCount(letters) > 3 || per < 1 || per > 4) {
            return OUTSIDE;
        }
        if (tables.size() == 6) {
            return FULL;
        }
        Table made = new Table();
        made.bits = letters;
        made.per = per;
        for (int letter = 0; letter < 8; letter++) {
            if ((letters & 1 << letter) != 0) {
                made.letters.add(letter);
            }
        }
        tables.add(made);
        return tables.size() - 1;
    }

    private Table named(int table) {
        return table < 0 || table >= tables.size() ? null : tables.get(table);
    }

    int row(int table, int x, int y, int z) {
        Table t = named(table);
        if (t == null) {
            return UNKNOWN;
        }
        int[] told = {x, y, z};
        int[] row = new int[8];
        int at = 0;
        for (int letter : t.letters) {
            if (told[at] < 0 || told[at] > 9) {
                return OUTSIDE;
            }
            row[letter] = told[at++];
        }
        for (; at < 3; at++) {
            if (told[at] != 0) {
                return OUTSIDE;
            }
        }
        if (t.rows.size() == 8) {
            return FULL;
        }
        t.rows.add(row);
        return t.rows.size();
    }

    int fill(int table, int x, int n, int most) {
        Table t = named(table);
        if (t == null) {
            return UNKNOWN;
        }
        if (x < 0 || n < 1 || n > 8 || most < 1 || most > 10) {
            return OUTSIDE;
        }
        long seed = x;
        int came = 0;
        while (came < n && t.rows.size() < 8) {
            int[] row = new int[8];
            for (int letter : t.letters) {
                seed = (1103515245L * seed + 12345L) % (1L << 31);
                row[letter] = (int) (seed / 65536 % most);
            }
            t.rows.add(row);
            came++;
        }
        return came;
    }

    int drop(int table, int i) {
        Table t = named(table);
        if (t == null || i < 0 || i >= t.rows.size()) {
            return UNKNOWN;
        }
        t.rows.remove(i);
        return t.rows.size();
    }

    int sort(int table, int letter) {
        Table t = named(table);
        if (t == null) {
            return UNKNOWN;
        }
        if (!t.letters.contains(letter)) {
            return OUTSIDE;
        }
        List<int[]> before = new ArrayList<>(t.rows);
        t.rows.sort((a, b) -> Integer.compare(a[letter], b[letter]));
        int elsewhere = 0;
        for (int i = 0; i < before.size(); i++) {
            elsewhere += before.get(i) == t.rows.get(i) ? 0 : 1;
        }
        return elsewhere;
    }

    int get(int table, int i, int letter) {
        Table t = named(table);
        if (t == null || i < 0 || i >= t.rows.size() || letter < 0 || letter > 7) {
            return UNKNOWN;
        }
        return t.letters.contains(letter) ? t.rows.get(i)[letter] : NONE;
    }

    int about(int table, int what) {
        Table t = named(table);
        if (t == null) {
            return UNKNOWN;
        }
        if (what < 0 || what > 4) {
            return OUTSIDE;
        }
        int[] told = {t.bits, t.per, t.rows.size(), (int) up(t.rows.size(), t.per), order(t)};
        return told[what];
    }

    private static int order(Table t) {
        for (int letter : t.letters) {
            boolean rises = true;
            for (int i = 1; i < t.rows.size(); i++) {
                rises &= t.rows.get(i - 1)[letter] <= t.rows.get(i)[letter];
            }
            if (rises) {
                return letter;
            }
        }
        return NONE;
    }

    private static int unlikeOf(Table t, int letter) {
        Set<Integer> seen = new HashSet<>();
        for (int[] row : t.rows) {
            seen.add(row[letter]);
        }
        return seen.size();
    }

    int unlike(int table, int letter) {
        Table t = named(table);
        if (t == null) {
            return UNKNOWN;
        }
        return t.letters.contains(letter) ? unlikeOf(t, letter) : OUTSIDE;
    }

    int rule(int which, int v) {
        if (which == 0) {
            int was = wide;
            if (v < 1 || v > 8) {
                return OUTSIDE;
            }
            wide = v;
            return was;
        }
        if (which == 1) {
            int was = memory;
            if (v < 3 || v > 9) {
                return OUTSIDE;
            }
            memory = v;
            return was;
        }
        return UNKNOWN;
    }

    // ---- joined rows

    private boolean isSet(int set) {
        return set >= 1 && set <= (1 << tables.size()) - 1;
    }

    private static TreeSet<Integer> members(int set) {
        TreeSet<Integer> members = new TreeSet<>();
        for (int t = 0; t < 6; t++) {
            if ((set & 1 << t) != 0) {
                members.add(t);
            }
        }
        return members;
    }

    /** Each joined row: for tables 0 to 5 the row chosen (or -1), then for letters 0 to 7 the number (or -1). */
    private List<int[]> joinedRows(Set<Integer> set) {
        List<int[]> all = new ArrayList<>();
        int[] start = new int[14];
        java.util.Arrays.fill(start, -1);
        all.add(start);
        for (int t : new TreeSet<>(set)) {
            List<int[]> longer = new ArrayList<>();
            for (int[] part : all) {
                for (int i = 0; i < tables.get(t).rows.size(); i++) {
                    int[] next = part.clone();
                    next[t] = i;
                    boolean fits = true;
                    for (int letter : tables.get(t).letters) {
                        int number = tables.get(t).rows.get(i)[letter];
                        fits &= next[6 + letter] == -1 || next[6 + letter] == number;
                        next[6 + letter] = number;
                    }
                    if (fits) {
                        longer.add(next);
                    }
                }
            }
            all = longer;
        }
        return all;
    }

    private long sizeOf(Set<Integer> set, int by) {
        if (by == 0) {
            return joinedRows(set).size();
        }
        long product = 1;
        for (int t : set) {
            if (tables.get(t).rows.isEmpty()) {
                return 0;
            }
            product *= tables.get(t).rows.size();
        }
        long divisor = 1;
        for (int letter = 0; letter < 8; letter++) {
            List<Integer> unlikes = new ArrayList<>();
            for (int t : set) {
                if (tables.get(t).letters.contains(letter)) {
                    unlikes.add(unlikeOf(tables.get(t), letter));
                }
            }
            unlikes.sort(null);
            for (int k = 1; k < unlikes.size(); k++) {
                divisor *= unlikes.get(k);
            }
        }
        return product / divisor;
    }

    private static long up(long a, long by) {
        return a / by + (a % by == 0 ? 0 : 1);
    }

    private long pagesOf(Set<Integer> set, int by) {
        if (set.size() == 1) {
            Table t = tables.get(set.iterator().next());
            return up(t.rows.size(), t.per);
        }
        return up(sizeOf(set, by), wide);
    }

    int size(int set, int by) {
        return !isSet(set) || by < 0 || by > 1 ? OUTSIDE : (int) sizeOf(members(set), by);
    }

    int pages(int set, int by) {
        return !isSet(set) || by < 0 || by > 1 ? OUTSIDE : (int) pagesOf(members(set), by);
    }

    int joined(int set, int i, int table) {
        if (!isSet(set)) {
            return OUTSIDE;
        }
        if (!members(set).contains(table)) {
            return UNKNOWN;
        }
        List<int[]> all = joinedRows(members(set));
        return i < 0 || i >= all.size() ? NONE : all.get(i)[table];
    }

    int value(int set, int i, int letter) {
        if (!isSet(set)) {
            return OUTSIDE;
        }
        if (letter < 0 || letter > 7) {
            return UNKNOWN;
        }
        List<int[]> all = joinedRows(members(set));
        return i < 0 || i >= all.size() ? NONE : all.get(i)[6 + letter];
    }

    int idle(int set, int table) {
        if (!isSet(set)) {
            return OUTSIDE;
        }
        if (!members(set).contains(table)) {
            return UNKNOWN;
        }
        Set<Integer> busy = new HashSet<>();
        for (int[] one : joinedRows(members(set))) {
            busy.add(one[table]);
        }
        return tables.get(table).rows.size() - busy.size();
    }

    // ---- plans

    int letters(long w) {
        StringBuilder come = new StringBuilder();
        boolean ended = false;
        for (int k = 0; k < 8; k++) {
            int code = (int) (w >> 8 * k) & 0xff;
            if (code > 126 || code != 0 && ended) {
                return OUTSIDE;
            }
            if (code == 0) {
                ended = true;
            } else {
                come.append((char) code);
            }
        }
        if (page.length() + come.length() > 40) {
            return FULL;
        }
        page.append(come);
        return page.length();
    }

    int blank() {
        int was = page.length();
        page.setLength(0);
        return was;
    }

    int good() {
        for (int n = page.length(); n > 0; n--) {
            if (mayBegin(page.substring(0, n))) {
                return n;
            }
        }
        return 0;
    }

    /**
     * Whether a text may begin a plan: it is closed in the shortest way (the least tables that it
     * has not named, ways "l"), and what comes of it must be a plan.
     */
    private boolean mayBegin(String start) {
        StringBuilder whole = new StringBuilder(start);
        for (int tries = 0; tries < 60; tries++) {
            if (parse(whole.toString(), 0) != null) {
                return true;
            }
            char last = whole.charAt(whole.length() - 1);
            if (last == '(' || last == 'l' || last == 'p' || last == 's') {
                int t = 0;
                while (t < 6 && whole.indexOf(String.valueOf(t)) >= 0) {
                    t++;
                }
                whole.append(t);
            } else {
                whole.append(openSideIsRight(whole.toString()) ? ')' : 'l');
            }
        }
        return false;
    }

    /** Of the last "(" that is not closed: whether a way stands behind it at its own depth. */
    private static boolean openSideIsRight(String text) {
        int depth = 0;
        boolean way = false;
        for (int i = text.length() - 1; i >= 0; i--) {
            char c = text.charAt(i);
            if (c == ')') {
                depth++;
            } else if (c == '(' && depth-- == 0) {
                return way;
            } else if (depth == 0 && "lps".indexOf(c) >= 0) {
                way = true;
            }
        }
        return way;
    }

    /** The plan that a text is, or null. */
    Plan parse(String text, int by) {
        if (text.length() == 1) {
            int t = text.charAt(0) - '0';
            return t < 0 || t >= tables.size() ? null : alone(t, by);
        }
        if (text.length() < 5 || text.charAt(0) != '(' || text.charAt(text.length() - 1) != ')') {
            return null;
        }
        int depth = 0;
        for (int i = 1; i < text.length() - 1; i++) {
            char c = text.charAt(i);
            depth += c == '(' ? 1 : c == ')' ? -1 : 0;
            if (depth == 0 && "lps".indexOf(c) >= 0) {
                Plan left = parse(text.substring(1, i), by);
                Plan right = parse(text.substring(i + 1, text.length() - 1), by);
                if (left == null || right == null) {
                    return null;
                }
                if ((left.tables() & right.tables()) != 0) {
                    return null;
                }
                long a = pagesOf(members(left.tables()), by);
                long b = pagesOf(members(right.tables()), by);
                return step(left, c, right, a, b);
            }
        }
        return null;
    }

    private Plan alone(int t, int by) {
        return new Plan(String.valueOf(t), 1 << t, pagesOf(Set.of(t), by), order(tables.get(t)), true, 0);
    }

    private Set<Integer> lettersOf(Set<Integer> set) {
        Set<Integer> letters = new TreeSet<>();
        for (int t : set) {
            letters.addAll(tables.get(t).letters);
        }
        return letters;
    }

    private Plan step(Plan left, char way, Plan right, long a, long b) {
        int shared = leastShared(left.tables(), right.tables());
        boolean done = left.done() && right.done() && (way == 'l' || shared != NONE);
        long cost = left.cost() + right.cost();
        int order = NONE;
        if (way == 'l') {
            cost += a > memory - 2 ? b * (up(a, memory - 2) - 1) : 0;
            order = left.order();
        } else if (way == 'p') {
            cost += Math.min(a, b) > memory - 2 ? 2 * (a + b) : 0;
        } else if (shared != NONE) {
            order = shared;
            cost += left.order() == order ? 0 : sorting(a);
            cost += right.order() == order ? 0 : sorting(b);
        }
        String text = "(" + left.text() + way + right.text() + ")";
        return new Plan(text, left.tables() | right.tables(), cost, order, done, left.steps() + right.steps() + 1);
    }

    private int leastShared(int left, int right) {
        for (int letter = 0; letter < 8; letter++) {
            boolean leftHas = false;
            boolean rightHas = false;
            for (int t = 0; t < tables.size(); t++) {
                boolean has = (tables.get(t).bits & 1 << letter) != 0;
                leftHas |= has && (left & 1 << t) != 0;
                rightHas |= has && (right & 1 << t) != 0;
            }
            if (leftHas && rightHas) {
                return letter;
            }
        }
        return NONE;
    }

    private long sorting(long a) {
        if (a == 0) {
            return 0;
        }
        long cost = 2 * a;
        for (long runs = up(a, memory); runs != 1; runs = up(runs, memory - 1)) {
            cost += 2 * a;
        }
        return cost;
    }

    int plan(int by, int what) {
        if (by < 0 || by > 1 || what < 0 || what > 3) {
            return OUTSIDE;
        }
        Plan plan = parse(page.toString(), by);
        if (plan == null) {
            return STATE;
        }
        if (what == 0) {
            return plan.tables();
        }
        if (what == 3) {
            return plan.steps();
        }
        return !plan.done() ? -2 : what == 1 ? (int) plan.cost() : plan.order();
    }

    private static int bits(Set<Integer> set) {
        int bits = 0;
        for (int t : set) {
            bits |= 1 << t;
        }
        return bits;
    }

    /** The best plan, of all that there are; its cost has the wished sorting in it. */
    Plan bestPlan(int set, int shape, int by, int letter) {
        List<List<Plan>> plans = new ArrayList<>();
        long[] pages = new long[64];
        Plan best = null;
        for (int sub = 0; sub <= set; sub++) {
            List<Plan> those = new ArrayList<>();
            plans.add(those);
            if (sub == 0 || (sub & ~set) != 0) {
                continue;
            }
            pages[sub] = pagesOf(members(sub), by);
            if (Integer.bitCount(sub) == 1) {
                those.add(alone(members(sub).first(), by));
            }
            for (int left = 1; left < sub; left++) {
                int right = sub & ~left;
                if ((left & ~sub) != 0 || shape == 1 && Integer.bitCount(right) > 1) {
                    continue;
                }
                for (Plan x : plans.get(left)) {
                    for (Plan y : plans.get(right)) {
                        for (char way : new char[] {'l', 'p', 's'}) {
                            Plan made = step(x, way, y, pages[left], pages[right]);
                            if (made.done() && sub == set) {
                                best = better(best, made, letter, pages[set]);
                            } else if (made.done()) {
                                those.add(made);
                            }
                        }
                    }
                }
            }
        }
        return best == null ? better(null, plans.get(set).get(0), letter, pages[set]) : best;
    }

    private Plan better(Plan best, Plan made, int letter, long pages) {
        long cost = made.cost() + (letter == NONE || made.order() == letter ? 0 : sorting(pages));
        if (best != null && (best.cost() < cost
                || best.cost() == cost && best.text().compareTo(made.text()) <= 0)) {
            return best;
        }
        return new Plan(made.text(), made.tables(), cost, made.order(), true, made.steps());
    }

    private int refusal(int set, int shape, int by, int letter) {
        if (!isSet(set) || shape < 0 || shape > 1 || by < 0 || by > 1 || letter < -1 || letter > 7) {
            return OUTSIDE;
        }
        return choices == 60 ? STATE : 0;
    }

    int best(int set, int shape, int by, int letter) {
        int refusal = refusal(set, shape, by, letter);
        if (refusal != 0) {
            return refusal;
        }
        choices++;
        return (int) bestPlan(set, shape, by, letter).cost();
    }

    int sign(int set, int shape, int by, int letter, int i) {
        int refusal = refusal(set, shape, by, letter);
        if (refusal != 0) {
            return refusal;
        }
        choices++;
        String text = bestPlan(set, shape, by, letter).text();
        return i < 0 || i >= text.length() ? NONE : text.charAt(i);
    }

    int regret(int set, int shape) {
        int refusal = refusal(set, shape, 0, NONE);
        if (refusal != 0) {
            return refusal;
        }
        choices++;
        Plan foretold = bestPlan(set, shape, 1, NONE);
        return (int) (parse(foretold.text(), 0).cost() - bestPlan(set, shape, 0, NONE).cost());
    }

    // ---- what hangs

    /** Pairs: the table that goes, what it hangs on (or NONE). */
    private List<int[]> goings(int set) {
        List<int[]> goings = new ArrayList<>();
        TreeSet<Integer> there = members(set);
        boolean went = true;
        while (went && !there.isEmpty()) {
            went = false;
            for (int t : there) {
                int on = there.size() == 1 ? NONE : hook(there, t);
                if (there.size() == 1 || on != NONE) {
                    goings.add(new int[] {t, on});
                    there.remove(t);
                    went = true;
                    break;
                }
            }
        }
        return goings;
    }

    private int hook(TreeSet<Integer> there, int t) {
        Set<Integer> needed = new TreeSet<>();
        for (int other : there) {
            for (int letter : tables.get(other).letters) {
                if (other != t && tables.get(t).letters.contains(letter)) {
                    needed.add(letter);
                }
            }
        }
        for (int other : there) {
            if (other != t && tables.get(other).letters.containsAll(needed)) {
                return other;
            }
        }
        return NONE;
    }

    int hangs(int set) {
        return !isSet(set) ? OUTSIDE : goings(set).size() == members(set).size() ? 1 : 0;
    }

    int goes(int set, int i) {
        if (!isSet(set)) {
            return OUTSIDE;
        }
        List<int[]> goings = goings(set);
        return i < 0 || i >= goings.size() ? NONE : goings.get(i)[0];
    }

    int on(int set, int table) {
        if (!isSet(set)) {
            return OUTSIDE;
        }
        if (!members(set).contains(table)) {
            return UNKNOWN;
        }
        for (int[] going : goings(set)) {
            if (going[0] == table) {
                return going[1];
            }
        }
        return NONE;
    }

    private List<TreeSet<Integer>> fullCut(int set) {
        List<TreeSet<Integer>> rest = new ArrayList<>();
        for (Table t : tables) {
            TreeSet<Integer> rows = new TreeSet<>();
            for (int i = 0; i < t.rows.size(); i++) {
                rows.add(i);
            }
            rest.add(rows);
        }
        List<int[]> goings = goings(set);
        for (int[] going : goings) {
            cut(rest, going[1], going[0]);
        }
        for (int k = goings.size() - 1; k >= 0; k--) {
            cut(rest, goings.get(k)[0], goings.get(k)[1]);
        }
        return rest;
    }

    private void cut(List<TreeSet<Integer>> rest, int t, int other) {
        if (t == NONE || other == NONE) {
            return;
        }
        Set<Integer> shared = new TreeSet<>(tables.get(t).letters);
        shared.retainAll(tables.get(other).letters);
        rest.get(t).removeIf(i -> {
            for (int k : rest.get(other)) {
                boolean fits = true;
                for (int letter : shared) {
                    fits &= tables.get(t).rows.get(i)[letter] == tables.get(other).rows.get(k)[letter];
                }
                if (fits) {
                    return false;
                }
            }
            return true;
        });
    }

    int left(int set, int table) {
        if (!isSet(set)) {
            return OUTSIDE;
        }
        if (!members(set).contains(table)) {
            return UNKNOWN;
        }
        return hangs(set) == 0 ? STATE : bits(fullCut(set).get(table));
    }

    int steps(int set) {
        if (!isSet(set)) {
            return OUTSIDE;
        }
        if (hangs(set) == 0) {
            return STATE;
        }
        int gone = 0;
        List<TreeSet<Integer>> rest = fullCut(set);
        for (int t : members(set)) {
            gone += tables.get(t).rows.size() - rest.get(t).size();
        }
        return gone;
    }

    int cover(int set) {
        if (!isSet(set)) {
            return OUTSIDE;
        }
        for (int many = 1; many <= 6; many++) {
            for (int sub = 1; sub <= set; sub++) {
                if ((sub & ~set) == 0 && Integer.bitCount(sub) == many
                        && lettersOf(members(sub)).equals(lettersOf(members(set)))) {
                    return sub;
                }
            }
        }
        throw new IllegalStateException("a set covers itself");
    }

    // ---- what is told

    int count(int what) {
        switch (what) {
            case 0:
                return tables.size();
            case 1:
                return tables.stream().mapToInt(t -> t.rows.size()).sum();
            case 2:
                return page.length();
            case 3:
                return lettersOf(members((1 << tables.size()) - 1)).size();
            case 4:
                return choices;
            default:
                return OUTSIDE;
        }
    }

    long digest() {
        List<Long> numbers = new ArrayList<>();
        for (int t = 0; t < tables.size(); t++) {
            for (int what = 0; what < 5; what++) {
                numbers.add((long) about(t, what));
            }
            for (int[] row : tables.get(t).rows) {
                for (int letter : tables.get(t).letters) {
                    numbers.add((long) row[letter]);
                }
            }
        }
        numbers.add((long) wide);
        numbers.add((long) memory);
        if (!tables.isEmpty()) {
            int all = (1 << tables.size()) - 1;
            numbers.add((long) size(all, 0));
            numbers.add((long) size(all, 1));
            numbers.add((long) hangs(all));
            numbers.add((long) cover(all));
        }
        for (int i = 0; i < page.length(); i++) {
            numbers.add((long) page.charAt(i));
        }
        for (int what = 0; what < 5; what++) {
            numbers.add((long) count(what));
        }
        long h = 269;
        for (long number : numbers) {
            h = 31 * h + number;
        }
        return h;
    }
}
