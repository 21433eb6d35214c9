import java.util.ArrayList;
import java.util.List;
import java.util.Random;

/** Long runs of seeded calls on JoinWays and on Model, each answer compared, and the digest with it. */
public final class ModelTest {
    private static final int RUNS = 600;
    // behind the 512th call of an object answers are free; some calls are not told here
    private static final int CALLS = 440;

    private final Random random;
    private final JoinWays program = new JoinWays();
    private final Model model = new Model();
    private final List<String> told = new ArrayList<>();
    private final int mostTables;
    private int wrong = 0;

    private ModelTest(long seed) {
        random = new Random(seed);
        mostTables = 1 + random.nextInt(6);
    }

    public static void main(String[] args) {
        int wrong = 0;
        for (int run = 0; run < RUNS && wrong == 0; run++) {
            ModelTest test = new ModelTest(run);
            test.run();
            wrong += test.wrong;
        }
        wrong += bigRuns();
        System.out.println(wrong == 0 ? "program and model agree" : "program and model differ");
        System.exit(wrong == 0 ? 0 : 1);
    }

    /** Whole texts of best plans; six tables that all share a letter have seven million plans, so there are few of these. */
    private static int bigRuns() {
        int wrong = 0;
        for (int run = 0; run < 84 && wrong == 0; run++) {
            ModelTest test = new ModelTest(1000 + run);
            int many = run < 80 ? 3 + run % 3 : 6;
            int shape = run < 82 ? run / 2 % 2 : 0;
            while (test.model.tables.size() < many) {
                test.newTable(run % 4 == 3 ? 2 : 6);
                test.fillTable(test.model.tables.size() - 1);
                test.fillTable(test.model.tables.size() - 1);
            }
            test.due("rule(0," + (1 + run % 8) + ")", test.program.rule(0, 1 + run % 8), test.model.rule(0, 1 + run % 8));
            test.due("rule(1," + (3 + run % 5) + ")", test.program.rule(1, 3 + run % 5), test.model.rule(1, 3 + run % 5));
            test.wholeText((1 << many) - 1, shape, run % 2, test.random.nextInt(9) - 1);
            wrong += test.wrong;
        }
        return wrong;
    }

    private void wholeText(int set, int shape, int by, int letter) {
        Model.Plan plan = model.bestPlan(set, shape, by, letter);
        String call = "best(" + set + "," + shape + "," + by + "," + letter + ")";
        due(call, program.best(set, shape, by, letter), plan.cost());
        for (int i = 0; i <= plan.text().length(); i++) {
            int sign = program.sign(set, shape, by, letter, i);
            due(call + " sign " + i, sign, i < plan.text().length() ? plan.text().charAt(i) : Model.NONE);
        }
    }

    private void due(String call, long got, long want) {
        told.add(call + " = " + want);
        if (got != want) {
            wrong++;
            System.out.println(String.join("\n", told));
            System.out.println(call + " answered " + got + ", the model " + want);
        }
    }

    private void run() {
        due("digest()", program.digest(), model.digest());
        for (int n = 0; told.size() < CALLS && wrong == 0; n++) {
            int kind = random.nextInt(30);
            if (kind < 8) {
                change(kind);
            } else if (kind < 12) {
                writePage();
            } else {
                ask(kind);
            }
            if (n % 10 == 0 || kind < 8) {
                due("digest()", program.digest(), model.digest());
            }
        }
    }

    /** Mostly a number of 0 to most, now and then one that is near it or far off. */
    private int some(int most) {
        int how = random.nextInt(40);
        if (how == 0) {
            return Integer.MIN_VALUE;
        }
        if (how == 1) {
            return Integer.MAX_VALUE;
        }
        return how < 6 ? random.nextInt(most + 4) - 2 : random.nextInt(most + 1);
    }

    private int someTable() {
        return some(Math.max(0, model.tables.size() - 1));
    }

    private int someSet() {
        int all = (1 << model.tables.size()) - 1;
        return some(all);
    }

    /** A set that the model can go through plan by plan in time. */
    private int someSmallSet() {
        int set = someSet();
        while (set > 0 && set < 64 && Integer.bitCount(set) > (random.nextInt(60) == 0 ? 5 : 4)) {
            set &= set - 1;
        }
        return set;
    }

    private void newTable(int pool) {
        int letters = 0;
        int many = 1 + random.nextInt(3);
        for (int k = 0; k < many; k++) {
            letters |= 1 << random.nextInt(pool);
        }
        if (random.nextInt(12) == 0) {
            letters = some(255);
        }
        int per = 1 + some(3);
        due("table(" + letters + "," + per + ")", program.table(letters, per), model.table(letters, per));
    }

    private void fillTable(int t) {
        int x = random.nextInt(20) == 0 ? some(100) : random.nextInt(Integer.MAX_VALUE);
        int n = 1 + some(7);
        int most = 1 + random.nextInt(10) * random.nextInt(10) / 10;
        if (random.nextInt(20) == 0) {
            most = some(10);
        }
        due("fill(" + t + "," + x + "," + n + "," + most + ")", program.fill(t, x, n, most), model.fill(t, x, n, most));
    }

    private void change(int kind) {
        int t = someTable();
        switch (kind) {
            case 0:
            case 1:
                if (model.tables.size() < mostTables || mostTables == 6) {
                    newTable(2 + random.nextInt(5));
                }
                break;
            case 2:
            case 3:
                fillTable(t);
                break;
            case 4: {
                int many = t >= 0 && t < model.tables.size() ? model.tables.get(t).letters.size() : 3;
                int x = some(9);
                int y = many > 1 || random.nextInt(9) == 0 ? some(9) : 0;
                int z = many > 2 || random.nextInt(9) == 0 ? some(9) : 0;
                due("row(" + t + "," + x + "," + y + "," + z + ")", program.row(t, x, y, z), model.row(t, x, y, z));
                break;
            }
            case 5: {
                int i = some(7);
                due("drop(" + t + "," + i + ")", program.drop(t, i), model.drop(t, i));
                break;
            }
            case 6: {
                int letter = some(5);
                due("sort(" + t + "," + letter + ")", program.sort(t, letter), model.sort(t, letter));
                break;
            }
            default: {
                int which = some(1);
                int v = some(9);
                due("rule(" + which + "," + v + ")", program.rule(which, v), model.rule(which, v));
            }
        }
    }

    private String somePlan(List<Integer> tables) {
        if (tables.size() == 1) {
            return tables.get(0).toString();
        }
        int at = 1 + random.nextInt(tables.size() - 1);
        char way = "lps".charAt(random.nextInt(3));
        return "(" + somePlan(tables.subList(0, at)) + way + somePlan(tables.subList(at, tables.size())) + ")";
    }

    private void writePage() {
        if (random.nextInt(6) != 0) {
            due("blank()", program.blank(), model.blank());
        }
        List<Integer> tables = new ArrayList<>(List.of(0, 1, 2, 3, 4, 5));
        java.util.Collections.shuffle(tables, random);
        if (random.nextInt(6) != 0) {
            tables.removeIf(t -> t >= model.tables.size());
        }
        if (tables.isEmpty()) {
            tables.add(0);
        }
        StringBuilder text = new StringBuilder(somePlan(tables.subList(0, 1 + random.nextInt(tables.size()))));
        int spoil = random.nextInt(8);
        int at = random.nextInt(text.length());
        if (spoil == 0) {
            text.setCharAt(at, "()012345lps x".charAt(random.nextInt(13)));
        } else if (spoil == 1) {
            text.deleteCharAt(at);
        } else if (spoil == 2) {
            text.insert(at, "()012345lps".charAt(random.nextInt(11)));
        } else if (spoil == 3) {
            text.setLength(at);
        }
        for (int from = 0; from < text.length(); from += 8) {
            long w = 0;
            for (int k = Math.min(8, text.length() - from) - 1; k >= 0; k--) {
                w = w << 8 | text.charAt(from + k);
            }
            if (random.nextInt(40) == 0) {
                w = random.nextLong() & random.nextLong();
            }
            due("letters(" + w + ")", program.letters(w), model.letters(w));
        }
        due("good()", program.good(), model.good());
        for (int by = 0; by < 2; by++) {
            for (int what = 0; what < 4; what++) {
                due("plan(" + by + "," + what + ")", program.plan(by, what), model.plan(by, what));
            }
        }
    }

    private void ask(int kind) {
        int t = someTable();
        int set = someSet();
        int by = some(1);
        int what = some(4);
        int letter = some(7);
        int i = some(7);
        switch (kind) {
            case 12:
                due("get(" + t + "," + i + "," + letter + ")", program.get(t, i, letter), model.get(t, i, letter));
                break;
            case 13:
                due("about(" + t + "," + what + ")", program.about(t, what), model.about(t, what));
                break;
            case 14:
                due("unlike(" + t + "," + letter + ")", program.unlike(t, letter), model.unlike(t, letter));
                break;
            case 15:
                due("size(" + set + "," + by + ")", program.size(set, by), model.size(set, by));
                break;
            case 16:
                due("pages(" + set + "," + by + ")", program.pages(set, by), model.pages(set, by));
                break;
            case 17:
                i = someJoined(set);
                due("joined(" + set + "," + i + "," + t + ")", program.joined(set, i, t), model.joined(set, i, t));
                break;
            case 18:
                i = someJoined(set);
                due("value(" + set + "," + i + "," + letter + ")",
                        program.value(set, i, letter), model.value(set, i, letter));
                break;
            case 19:
                due("idle(" + set + "," + t + ")", program.idle(set, t), model.idle(set, t));
                break;
            case 20:
                due("plan(" + by + "," + what + ")", program.plan(by, what), model.plan(by, what));
                break;
            case 21:
            case 22:
                choose();
                break;
            case 23:
                due("hangs(" + set + ")", program.hangs(set), model.hangs(set));
                due("goes(" + set + "," + i + ")", program.goes(set, i), model.goes(set, i));
                break;
            case 24:
                due("on(" + set + "," + t + ")", program.on(set, t), model.on(set, t));
                break;
            case 25:
                due("left(" + set + "," + t + ")", program.left(set, t), model.left(set, t));
                cutLeavesNoneIdle(set, t);
                break;
            case 26:
                due("steps(" + set + ")", program.steps(set), model.steps(set));
                break;
            case 27:
                due("cover(" + set + ")", program.cover(set), model.cover(set));
                break;
            default:
                due("count(" + what + ")", program.count(what), model.count(what));
        }
    }

    private int someJoined(int set) {
        int size = model.size(set, 0);
        return size > 0 ? some(size) : some(3);
    }

    private void cutLeavesNoneIdle(int set, int t) {
        int left = program.left(set, t);
        if (left >= 0) {
            due("rows left of " + t + " in " + set, Integer.bitCount(left), program.about(t, 2) - program.idle(set, t));
        }
    }

    private void choose() {
        int set = someSmallSet();
        int shape = some(1);
        int by = some(1);
        int letter = some(8) - 1;
        int i = some(20);
        switch (random.nextInt(3)) {
            case 0:
                due("best(" + set + "," + shape + "," + by + "," + letter + ")",
                        program.best(set, shape, by, letter), model.best(set, shape, by, letter));
                break;
            case 1:
                due("sign(" + set + "," + shape + "," + by + "," + letter + "," + i + ")",
                        program.sign(set, shape, by, letter, i), model.sign(set, shape, by, letter, i));
                break;
            default:
                due("regret(" + set + "," + shape + ")", program.regret(set, shape), model.regret(set, shape));
        }
    }
}
