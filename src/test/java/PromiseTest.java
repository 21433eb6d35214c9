/** Each promise of the document by hand: ordinary calls, the edges that it names, and each refusal. */
public final class PromiseTest {
    private static final int NONE = -1, UNKNOWN = -101, OUTSIDE = -102, STATE = -103, FULL = -104;
    private static final int LEAST = Integer.MIN_VALUE, GREATEST = Integer.MAX_VALUE;
    private static int wrong = 0;

    public static void main(String[] args) {
        newObject();
        table();
        row();
        fill();
        fillSeeds();
        drop();
        sort();
        get();
        about();
        unlike();
        rule();
        size();
        sizeOfMany();
        pages();
        joined();
        joinedOrder();
        value();
        idle();
        letters();
        blank();
        good();
        goodCountsTables();
        plan();
        planThatCannotBeDone();
        planSorting();
        planOfSix();
        planOfNoPlan();
        best();
        bestShapes();
        bestRefusals();
        sortings();
        sign();
        regret();
        hangs();
        hangsOnLeast();
        goes();
        on();
        left();
        leftWithoutShared();
        steps();
        cover();
        count();
        digest();
        System.out.println(wrong == 0 ? "all promises hold" : wrong + " answers are not as due");
        System.exit(wrong == 0 ? 0 : 1);
    }

    private static void due(String what, long got, long want) {
        if (got != want) {
            wrong++;
            System.out.println(what + " answered " + got + ", due is " + want);
        }
    }

    /** A refused call answers as told, and the digest is what it was. */
    private static void refused(JoinWays x, String what, long before, int got, int want) {
        due(what, got, want);
        due(what + ": the digest then", x.digest(), before);
    }

    private static void write(JoinWays x, String text) {
        x.blank();
        for (int from = 0; from < text.length(); from += 8) {
            x.letters(word(text.substring(from, Math.min(from + 8, text.length()))));
        }
    }

    private static long word(String text) {
        long w = 0;
        for (int k = text.length() - 1; k >= 0; k--) {
            w = w << 8 | text.charAt(k);
        }
        return w;
    }

    private static long hash(long... numbers) {
        long h = 269;
        for (long number : numbers) {
            h = 31 * h + number;
        }
        return h;
    }

    /**
     * Table 0 has letters 0 and 1, two rows on a page: 1 5, 2 5, 3 6. Table 1 has letters 1 and 2,
     * one row on a page: 5 7, 5 8, 9 9. Rows 0 and 1 of the one fit rows 0 and 1 of the other.
     */
    private static JoinWays pair() {
        JoinWays x = new JoinWays();
        x.table(3, 2);
        x.table(6, 1);
        x.row(0, 1, 5, 0);
        x.row(0, 2, 5, 0);
        x.row(0, 3, 6, 0);
        x.row(1, 5, 7, 0);
        x.row(1, 5, 8, 0);
        x.row(1, 9, 9, 0);
        return x;
    }

    /** Tables with these letters and no rows. */
    private static JoinWays empty(int... letters) {
        JoinWays x = new JoinWays();
        for (int bits : letters) {
            x.table(bits, 1);
        }
        return x;
    }

    private static void newObject() {
        JoinWays x = new JoinWays();
        for (int what = 0; what <= 4; what++) {
            due("1: count(" + what + ") of a new object", x.count(what), 0);
        }
        due("1: size(1, 0) of a new object", x.size(1, 0), OUTSIDE);
        due("1: about(0, 0) of a new object", x.about(0, 0), UNKNOWN);
        due("1: good() of a new object", x.good(), 0);
        due("1: rule(0, 2) of a new object", x.rule(0, 2), 2);
        due("1: rule(1, 3) of a new object", x.rule(1, 3), 3);
        due("1: digest() of a new object", x.digest(), hash(2, 3, 0, 0, 0, 0, 0));
        JoinWays other = new JoinWays();
        other.table(1, 1);
        due("1: objects share nothing", x.count(0), 0);
    }

    private static void table() {
        JoinWays x = new JoinWays();
        due("2: table(1, 1)", x.table(1, 1), 0);
        due("2: table(128, 4)", x.table(128, 4), 1);
        due("2: table(224, 2), three letters", x.table(224, 2), 2);
        due("2: about(2, 0)", x.about(2, 0), 224);
        due("2: about(1, 1)", x.about(1, 1), 4);
        long before = x.digest();
        for (int letters : new int[] {0, -1, 256, 257, 15, 255, LEAST, GREATEST}) {
            refused(x, "2: table(" + letters + ", 1)", before, x.table(letters, 1), OUTSIDE);
        }
        for (int per : new int[] {0, -1, 5, LEAST, GREATEST}) {
            refused(x, "2: table(1, " + per + ")", before, x.table(1, per), OUTSIDE);
        }
        due("2: the fourth", x.table(1, 1), 3);
        due("2: the fifth", x.table(1, 1), 4);
        due("2: the sixth", x.table(1, 1), 5);
        long then = x.digest();
        refused(x, "2: a seventh", then, x.table(1, 1), FULL);
        refused(x, "2: a seventh without letters", then, x.table(0, 1), OUTSIDE);
        refused(x, "2: a seventh without rows on a page", then, x.table(1, 0), OUTSIDE);
    }

    private static void row() {
        JoinWays x = empty(16, 5, 14);
        due("3: row of one letter", x.row(0, 9, 0, 0), 1);
        due("3: row of two letters", x.row(1, 0, 9, 0), 1);
        due("3: row of three letters", x.row(2, 1, 2, 3), 1);
        due("3: it comes behind", x.row(2, 4, 5, 6), 2);
        due("3: the least letter's first", x.get(2, 0, 1), 1);
        due("3: then the next", x.get(2, 0, 2), 2);
        due("3: then the last", x.get(2, 0, 3), 3);
        due("3: the second row", x.get(2, 1, 3), 6);
        due("3: letters that do not touch", x.get(1, 0, 2), 9);
        long before = x.digest();
        for (int t : new int[] {-1, 3, 6, LEAST, GREATEST}) {
            refused(x, "3: row of table " + t, before, x.row(t, 10, 0, 0), UNKNOWN);
        }
        for (int bad : new int[] {-1, 10, LEAST, GREATEST}) {
            refused(x, "3: x is " + bad, before, x.row(2, bad, 0, 0), OUTSIDE);
            refused(x, "3: y is " + bad, before, x.row(2, 0, bad, 0), OUTSIDE);
            refused(x, "3: z is " + bad, before, x.row(2, 0, 0, bad), OUTSIDE);
        }
        refused(x, "3: y without a letter", before, x.row(0, 1, 1, 0), OUTSIDE);
        refused(x, "3: z without a letter", before, x.row(0, 1, 0, 1), OUTSIDE);
        refused(x, "3: z without a letter, of two", before, x.row(1, 1, 1, 1), OUTSIDE);
        for (int n = 2; n <= 8; n++) {
            due("3: row " + n, x.row(0, n, 0, 0), n);
        }
        long then = x.digest();
        refused(x, "3: a ninth row", then, x.row(0, 1, 0, 0), FULL);
        refused(x, "3: a ninth row that is not as told", then, x.row(0, 10, 0, 0), OUTSIDE);
    }

    private static void fill() {
        JoinWays x = empty(10, 1);
        // from seed 0: 12345, 1406932606, 654583775, 1449466924, whose numbers by 65536 are 0, 21468, 9988, 22117
        due("4: fill(0, 0, 2, 10)", x.fill(0, 0, 2, 10), 2);
        due("4: first row, letter 1", x.get(0, 0, 1), 0);
        due("4: first row, letter 3", x.get(0, 0, 3), 8);
        due("4: second row, letter 1", x.get(0, 1, 1), 8);
        due("4: second row, letter 3", x.get(0, 1, 3), 7);
        due("4: as long as there is room", x.fill(0, 1, 8, 1), 6);
        due("4: numbers below 1", x.get(0, 7, 3), 0);
        due("4: no room", x.fill(0, 1, 8, 1), 0);
        due("4: rows then", x.about(0, 2), 8);
        due("4: one alone", x.fill(1, 7, 1, 3), 1);
        long before = x.digest();
        for (int t : new int[] {-1, 2, LEAST, GREATEST}) {
            refused(x, "4: fill of table " + t, before, x.fill(t, -1, 0, 0), UNKNOWN);
        }
        refused(x, "4: a seed below 0", before, x.fill(1, -1, 1, 1), OUTSIDE);
        refused(x, "4: the least seed", before, x.fill(1, LEAST, 1, 1), OUTSIDE);
        for (int n : new int[] {0, 9, -1, LEAST, GREATEST}) {
            refused(x, "4: n is " + n, before, x.fill(1, 1, n, 1), OUTSIDE);
        }
        for (int most : new int[] {0, 11, -1, LEAST, GREATEST}) {
            refused(x, "4: most is " + most, before, x.fill(1, 1, 1, most), OUTSIDE);
        }
        refused(x, "4: a full table, n is 9", before, x.fill(0, 1, 9, 1), OUTSIDE);
    }

    private static void fillSeeds() {
        JoinWays x = empty(1, 1);
        due("4: the greatest seed", x.fill(0, GREATEST, 8, 10), 8);
        // 2147483647 leads to (12345 - 1103515245) modulo 2147483648 = 1043980748, by 65536: 15929
        due("4: its first number", x.get(0, 0, 0), 9);
        due("4: 777", x.fill(1, 777, 1, 10), 1);
        // 1103515245 * 777 + 12345 = 857431357710, its lower 31 figures 585382158, by 65536: 8932
        due("4: its number", x.get(1, 0, 0), 2);
    }

    private static void drop() {
        JoinWays x = pair();
        long before = x.digest();
        for (int t : new int[] {-1, 2, LEAST, GREATEST}) {
            refused(x, "5: drop of table " + t, before, x.drop(t, 0), UNKNOWN);
        }
        for (int i : new int[] {-1, 3, 8, LEAST, GREATEST}) {
            refused(x, "5: drop of row " + i, before, x.drop(0, i), UNKNOWN);
        }
        due("5: drop(0, 1)", x.drop(0, 1), 2);
        due("5: the one ahead stays", x.get(0, 0, 0), 1);
        due("5: the one behind moves up", x.get(0, 1, 0), 3);
        due("5: all its letters", x.get(0, 1, 1), 6);
        due("5: no third row", x.get(0, 2, 0), UNKNOWN);
        due("5: other tables stay", x.get(1, 1, 2), 8);
        due("5: drop(0, 0)", x.drop(0, 0), 1);
        due("5: the last", x.drop(0, 0), 0);
        due("5: none is left", x.drop(0, 0), UNKNOWN);
        due("5: a row after it", x.row(0, 4, 4, 0), 1);
        JoinWays full = empty(1);
        full.fill(0, 5, 8, 10);
        int seventh = full.get(0, 7, 0);
        due("5: of a full table", full.drop(0, 0), 7);
        due("5: its last moves up", full.get(0, 6, 0), seventh);
        due("5: there is room again", full.row(0, 1, 0, 0), 8);
    }

    private static void sort() {
        JoinWays x = empty(3, 1);
        int[][] rows = {{2, 0}, {1, 1}, {2, 2}, {1, 3}, {9, 4}};
        for (int[] row : rows) {
            x.row(0, row[0], row[1], 0);
        }
        long before = x.digest();
        for (int t : new int[] {-1, 2, LEAST, GREATEST}) {
            refused(x, "6: sort of table " + t, before, x.sort(t, 0), UNKNOWN);
        }
        for (int letter : new int[] {-1, 2, 7, 8, 32, LEAST, GREATEST}) {
            refused(x, "6: sort by letter " + letter, before, x.sort(0, letter), OUTSIDE);
        }
        due("6: by what it is sorted by already", x.sort(0, 1), 0);
        // 2 1 2 1 9 becomes 1 1 2 2 9, whole rows 1 3 0 2 4
        due("6: sort(0, 0)", x.sort(0, 0), 4);
        int[] places = {1, 3, 0, 2, 4};
        for (int i = 0; i < 5; i++) {
            due("6: row " + i + " then", x.get(0, i, 1), places[i]);
            due("6: its other letter", x.get(0, i, 0), rows[places[i]][0]);
        }
        due("6: again", x.sort(0, 0), 0);
        due("6: back by the other letter", x.sort(0, 1), 4);
        due("6: back where it was", x.digest(), before);
        due("6: a table without rows", x.sort(1, 0), 0);
        x.row(1, 5, 0, 0);
        x.row(1, 5, 0, 0);
        x.row(1, 4, 0, 0);
        due("6: like rows move too", x.sort(1, 0), 3);
    }

    private static void get() {
        JoinWays x = pair();
        due("7: get(0, 0, 0)", x.get(0, 0, 0), 1);
        due("7: get(0, 2, 1)", x.get(0, 2, 1), 6);
        due("7: get(1, 2, 2)", x.get(1, 2, 2), 9);
        due("7: a letter that it has not", x.get(0, 0, 2), NONE);
        due("7: letter 7", x.get(0, 0, 7), NONE);
        due("7: below its letters", x.get(1, 0, 0), NONE);
        for (int bad : new int[] {-1, 8, LEAST, GREATEST}) {
            due("7: table " + bad, x.get(bad, 0, 0), UNKNOWN);
            due("7: row " + bad, x.get(0, bad, 0), UNKNOWN);
            due("7: letter " + bad, x.get(0, 0, bad), UNKNOWN);
        }
        due("7: a row that is not there", x.get(0, 3, 2), UNKNOWN);
        due("7: a table that is not there", x.get(2, 0, 2), UNKNOWN);
    }

    private static void about() {
        JoinWays x = pair();
        int[] want = {3, 2, 3, 2, 0};
        for (int what = 0; what <= 4; what++) {
            due("8: about(0, " + what + ")", x.about(0, what), want[what]);
        }
        due("8: sorted by the least that rises", x.about(1, 4), 1);
        x.row(1, 8, 9, 0);
        due("8: like ones rise, the greater letter", x.about(1, 4), 2);
        x.row(1, 9, 0, 0);
        due("8: sorted by none", x.about(1, 4), NONE);
        due("8: five rows, one on a page", x.about(1, 3), 5);
        JoinWays bare = empty(12);
        due("8: no rows, no pages", bare.about(0, 3), 0);
        due("8: no rows rise", bare.about(0, 4), 2);
        bare.row(0, 9, 1, 0);
        due("8: one row rises", bare.about(0, 4), 2);
        JoinWays four = new JoinWays();
        four.table(1, 4);
        for (int n = 1; n <= 8; n++) {
            four.row(0, 0, 0, 0);
            due("8: pages of " + n + " rows", four.about(0, 3), n <= 4 ? 1 : 2);
        }
        for (int bad : new int[] {-1, 5, LEAST, GREATEST}) {
            due("8: about(0, " + bad + ")", x.about(0, bad), OUTSIDE);
            due("8: about(" + bad + ", " + bad + ")", x.about(bad, bad), UNKNOWN);
        }
        due("8: a table that is not there", x.about(2, 0), UNKNOWN);
    }

    private static void unlike() {
        JoinWays x = pair();
        due("9: unlike(0, 0)", x.unlike(0, 0), 3);
        due("9: unlike(0, 1)", x.unlike(0, 1), 2);
        due("9: unlike(1, 1)", x.unlike(1, 1), 2);
        due("9: no rows", empty(1).unlike(0, 0), 0);
        for (int bad : new int[] {-1, 2, 8, LEAST, GREATEST}) {
            due("9: unlike(0, " + bad + ")", x.unlike(0, bad), OUTSIDE);
            due("9: unlike(" + bad + ", 9)", x.unlike(bad, 9), UNKNOWN);
        }
    }

    private static void rule() {
        JoinWays x = pair();
        due("10: rule(0, 8)", x.rule(0, 8), 2);
        due("10: rule(0, 1)", x.rule(0, 1), 8);
        due("10: rule(1, 9)", x.rule(1, 9), 3);
        due("10: rule(1, 3)", x.rule(1, 3), 9);
        long before = x.digest();
        for (int v : new int[] {0, 9, -1, LEAST, GREATEST}) {
            refused(x, "10: rule(0, " + v + ")", before, x.rule(0, v), OUTSIDE);
        }
        for (int v : new int[] {2, 10, 0, -1, LEAST, GREATEST}) {
            refused(x, "10: rule(1, " + v + ")", before, x.rule(1, v), OUTSIDE);
        }
        for (int which : new int[] {-1, 2, LEAST, GREATEST}) {
            refused(x, "10: rule(" + which + ", 0)", before, x.rule(which, 0), UNKNOWN);
        }
        due("10: wide is 1", x.pages(3, 0), 4);
        due("10: rule(0, 1) again", x.rule(0, 3), 1);
        due("10: wide is 3", x.pages(3, 0), 2);
    }

    private static void size() {
        JoinWays x = pair();
        due("11: size(1, 0)", x.size(1, 0), 3);
        due("11: size(1, 1)", x.size(1, 1), 3);
        due("11: size(3, 0)", x.size(3, 0), 4);
        // 3 times 3 by 2 (2 and 2 but the least one), rounded down
        due("11: size(3, 1)", x.size(3, 1), 4);
        x.drop(1, 0);
        x.drop(1, 0);
        // 3 times 1 by 2: the least one is 1
        due("11: rounded down", x.size(3, 1), 1);
        due("11: one row", x.size(2, 1), 1);
        due("11: one row, true", x.size(2, 0), 1);
        x.drop(1, 0);
        x.row(1, 5, 7, 0);
        x.row(1, 5, 8, 0);
        x.row(1, 9, 9, 0);
        x.table(1, 1);
        due("11: no rows, true", x.size(7, 0), 0);
        due("11: no rows, foretold", x.size(7, 1), 0);
        due("11: no rows alone", x.size(4, 1), 0);
        x.row(2, 1, 0, 0);
        x.row(2, 4, 0, 0);
        // joined: row 0 of table 0 alone, with two of table 1
        due("11: size(7, 0)", x.size(7, 0), 2);
        // letters 0: 3 and 2, so 3; 1: 2 and 2, so 2: 18 by 6
        due("11: size(7, 1)", x.size(7, 1), 3);
        due("11: nothing shared, true", x.size(6, 0), 6);
        due("11: nothing shared, foretold", x.size(6, 1), 6);
        for (int set : new int[] {0, -1, 8, 9, 64, LEAST, GREATEST}) {
            due("11: size(" + set + ", 0)", x.size(set, 0), OUTSIDE);
        }
        for (int by : new int[] {-1, 2, LEAST, GREATEST}) {
            due("11: size(1, " + by + ")", x.size(1, by), OUTSIDE);
        }
    }

    private static void sizeOfMany() {
        JoinWays x = empty(1, 1, 1);
        int[][] rows = {{1, 2, 3, 3}, {1, 2}, {1, 2, 2}};
        for (int t = 0; t < 3; t++) {
            for (int number : rows[t]) {
                x.row(t, number, 0, 0);
            }
        }
        // unlike 3, 2, 2: but one of the least, 6: 24 by 6
        due("11: three share a letter, foretold", x.size(7, 1), 4);
        due("11: three share a letter, true", x.size(7, 0), 3);
        JoinWays most = empty(1, 3, 5, 9, 17, 33);
        for (int t = 0; t < 6; t++) {
            most.fill(t, 1, 8, 1);
        }
        due("11: the most there can be, true", most.size(63, 0), 262144);
        due("11: the most there can be, foretold", most.size(63, 1), 262144);
        due("13: its last row", most.joined(63, 262143, 3), 7);
        due("13: one behind it", most.joined(63, 262144, 3), NONE);
        due("13: one within", most.joined(63, 8 * 8 * 8 * 3 + 8 * 5, 2), 3);
        due("13: one within, of a later table", most.joined(63, 8 * 8 * 8 * 3 + 8 * 5, 4), 5);
        JoinWays wide = empty(7, 7, 7, 7, 7, 7);
        for (int t = 0; t < 6; t++) {
            for (int i = 0; i < 8; i++) {
                wide.row(t, i, i, i);
            }
        }
        due("11: foretold below 1", wide.size(63, 1), 0);
        due("11: its true size", wide.size(63, 0), 8);
    }

    private static void pages() {
        JoinWays x = pair();
        due("12: of one table, by its own rows on a page", x.pages(1, 0), 2);
        due("12: foretold too", x.pages(1, 1), 2);
        due("12: of the other", x.pages(2, 0), 3);
        due("12: of both", x.pages(3, 0), 2);
        due("12: of both, foretold", x.pages(3, 1), 2);
        x.rule(0, 3);
        due("12: rounded up", x.pages(3, 0), 2);
        due("12: one table does not mind wide", x.pages(2, 0), 3);
        x.rule(0, 8);
        due("12: one page", x.pages(3, 1), 1);
        x.drop(1, 0);
        x.drop(1, 0);
        due("12: no joined rows", x.pages(3, 0), 0);
        // 3 rows and 1 row, unlike 2 and 1: 3 by 2
        due("12: one foretold", x.pages(3, 1), 1);
        for (int bad : new int[] {-1, 4, LEAST, GREATEST}) {
            due("12: pages(" + bad + ", 0)", x.pages(bad, 0), OUTSIDE);
            due("12: pages(1, " + bad + ")", x.pages(1, bad), OUTSIDE);
        }
        due("12: pages(0, 0)", x.pages(0, 0), OUTSIDE);
    }

    private static void joined() {
        JoinWays x = pair();
        int[][] want = {{0, 0}, {0, 1}, {1, 0}, {1, 1}};
        for (int i = 0; i < 4; i++) {
            due("13: joined(3, " + i + ", 0)", x.joined(3, i, 0), want[i][0]);
            due("13: joined(3, " + i + ", 1)", x.joined(3, i, 1), want[i][1]);
        }
        due("13: of one table", x.joined(2, 2, 1), 2);
        for (int i : new int[] {4, -1, LEAST, GREATEST}) {
            due("13: joined(3, " + i + ", 0)", x.joined(3, i, 0), NONE);
        }
        for (int set : new int[] {0, -1, 4, LEAST, GREATEST}) {
            due("13: joined(" + set + ", 0, 9)", x.joined(set, 0, 9), OUTSIDE);
        }
        for (int t : new int[] {-1, 1, 2, 32, LEAST, GREATEST}) {
            due("13: joined(1, 9, " + t + ")", x.joined(1, 9, t), UNKNOWN);
        }
    }

    private static void joinedOrder() {
        JoinWays x = empty(1, 2, 3);
        x.row(0, 2, 0, 0);
        x.row(0, 1, 0, 0);
        x.row(1, 3, 0, 0);
        x.row(1, 4, 0, 0);
        x.row(2, 1, 4, 0);
        x.row(2, 2, 4, 0);
        x.row(2, 1, 3, 0);
        x.row(2, 1, 4, 0);
        int[][] want = {{0, 1, 1}, {1, 0, 2}, {1, 1, 0}, {1, 1, 3}};
        due("13: size", x.size(7, 0), 4);
        for (int i = 0; i < 4; i++) {
            for (int t = 0; t < 3; t++) {
                due("13: joined(7, " + i + ", " + t + ")", x.joined(7, i, t), want[i][t]);
            }
        }
        due("13: without the middle one", x.joined(5, 1, 2), 0);
    }

    private static void value() {
        JoinWays x = pair();
        int[][] want = {{1, 5, 7}, {1, 5, 8}, {2, 5, 7}, {2, 5, 8}};
        for (int i = 0; i < 4; i++) {
            for (int letter = 0; letter < 3; letter++) {
                due("14: value(3, " + i + ", " + letter + ")", x.value(3, i, letter), want[i][letter]);
            }
        }
        due("14: no such letter", x.value(3, 0, 3), NONE);
        due("14: no such letter in the set", x.value(1, 0, 2), NONE);
        due("14: no such row", x.value(3, 4, 0), NONE);
        due("14: no such row, below 0", x.value(3, -1, 0), NONE);
        for (int letter : new int[] {-1, 8, 32, LEAST, GREATEST}) {
            due("14: value(3, 99, " + letter + ")", x.value(3, 99, letter), UNKNOWN);
        }
        for (int set : new int[] {0, -1, 4, LEAST, GREATEST}) {
            due("14: value(" + set + ", 0, 9)", x.value(set, 0, 9), OUTSIDE);
        }
    }

    private static void idle() {
        JoinWays x = pair();
        due("15: idle(3, 0)", x.idle(3, 0), 1);
        due("15: idle(3, 1)", x.idle(3, 1), 1);
        due("15: idle(1, 0)", x.idle(1, 0), 0);
        x.drop(1, 1);
        due("15: idle of the other then", x.idle(3, 1), 1);
        x.table(128, 1);
        due("15: none to go with", x.idle(7, 0), 3);
        due("15: a table without rows", x.idle(7, 2), 0);
        x.row(2, 0, 0, 0);
        due("15: one to go with", x.idle(7, 0), 1);
        for (int set : new int[] {0, -1, 8, LEAST, GREATEST}) {
            due("15: idle(" + set + ", 9)", x.idle(set, 9), OUTSIDE);
        }
        for (int t : new int[] {-1, 2, 3, 33, LEAST, GREATEST}) {
            due("15: idle(3, " + t + ")", x.idle(3, t), UNKNOWN);
        }
    }

    private static void letters() {
        JoinWays x = new JoinWays();
        due("16: none", x.letters(0), 0);
        due("16: one", x.letters('('), 1);
        due("16: eight", x.letters(word("abcdefgh")), 9);
        due("16: 1 and 126", x.letters(126L << 8 | 1), 11);
        long before = x.digest();
        due("16: the lowest byte first", before, hash(2, 3, '(', 'a', 'b', 'c', 'd', 'e', 'f', 'g', 'h', 1, 126, 0, 0, 11, 0, 0));
        refused(x, "16: 127", before, x.letters(127), OUTSIDE);
        refused(x, "16: 127 at the end", before, x.letters(word("abcdefg") | 127L << 56), OUTSIDE);
        refused(x, "16: 255 at the end", before, x.letters(word("abcdefg") | 255L << 56), OUTSIDE);
        refused(x, "16: behind a 0", before, x.letters(65L << 8), OUTSIDE);
        refused(x, "16: far behind a 0", before, x.letters(1L << 56 | 65), OUTSIDE);
        refused(x, "16: the least", before, x.letters(Long.MIN_VALUE), OUTSIDE);
        refused(x, "16: -1", before, x.letters(-1), OUTSIDE);
        for (int n = 19; n <= 35; n += 8) {
            due("16: " + n, x.letters(word("01234567")), n);
        }
        long then = x.digest();
        refused(x, "16: above 40", then, x.letters(word("abcdef")), FULL);
        refused(x, "16: above 40, and not as told", then, x.letters(word("abcde") | 127L << 40), OUTSIDE);
        due("16: 40", x.letters(word("abcde")), 40);
        due("16: none at 40", x.letters(0), 40);
        refused(x, "16: one at 40", x.digest(), x.letters('a'), FULL);
    }

    private static void blank() {
        JoinWays x = pair();
        due("17: empty", x.blank(), 0);
        write(x, "(0l1)");
        due("17: blank()", x.blank(), 5);
        due("17: empty then", x.count(2), 0);
        due("17: good then", x.good(), 0);
        due("17: room again", x.letters(word("0")), 1);
        due("17: no trace of others", x.plan(0, 0), 1);
    }

    private static void goodIs(JoinWays x, String text, int want) {
        write(x, text);
        due("18: good() of " + text, x.good(), want);
    }

    private static void good() {
        JoinWays x = empty(1, 2, 4, 8);
        goodIs(x, "", 0);
        goodIs(x, "0", 1);
        goodIs(x, "01", 1);
        goodIs(x, "0l1", 1);
        goodIs(x, "4", 0);
        goodIs(x, "l", 0);
        goodIs(x, ")", 0);
        goodIs(x, "(", 1);
        goodIs(x, "()", 1);
        goodIs(x, "(l", 1);
        goodIs(x, "(0", 2);
        goodIs(x, "(0)", 2);
        goodIs(x, "(0(", 2);
        goodIs(x, "(0l", 3);
        goodIs(x, "(0p1", 4);
        goodIs(x, "(0q1", 2);
        goodIs(x, "(0L1", 2);
        goodIs(x, "(0l0", 3);
        goodIs(x, "(0l4)", 3);
        goodIs(x, "(0ll", 3);
        goodIs(x, "(0l1l", 4);
        goodIs(x, "(0l12", 4);
        goodIs(x, "(0s1)", 5);
        goodIs(x, "(0s1) ", 5);
        goodIs(x, "(0s1))", 5);
        goodIs(x, "(0s1)l", 5);
        goodIs(x, "((0l1)p(2s3))", 13);
        goodIs(x, "((0l1)p(2s3))(", 13);
        goodIs(x, "((0l1)p(2s0))", 10);
        goodIs(x, "((0l1))", 6);
        goodIs(x, "(((0l1)l2)l3)", 13);
        goodIs(x, "(0l(1l(2l3)))", 13);
        goodIs(x, "(0l(1l(2l3))))", 13);
    }

    private static void goodCountsTables() {
        JoinWays x = new JoinWays();
        goodIs(x, "0", 0);
        goodIs(x, "(", 0);
        x.table(1, 1);
        goodIs(x, "0", 1);
        goodIs(x, "(", 0);
        x.table(1, 1);
        goodIs(x, "((", 1);
        goodIs(x, "(0l(", 3);
        goodIs(x, "(0l1)", 5);
        x.table(1, 1);
        goodIs(x, "(((", 2);
        goodIs(x, "((0l(", 4);
        goodIs(x, "((0l1)l(", 7);
        goodIs(x, "(2l(", 4);
        goodIs(x, "(2l(0l(", 6);
        x.table(1, 1);
        x.table(1, 1);
        x.table(1, 1);
        goodIs(x, "((((((", 5);
        goodIs(x, "(0l(1p(2s(3l(4p5)))))", 21);
        goodIs(x, "(0l(1p(2s(3l(4p6)))))", 15);
    }

    private static void planIs(JoinWays x, String text, int by, int set, int cost, int order, int steps) {
        write(x, text);
        due("19: set of " + text, x.plan(by, 0), set);
        due("19: cost of " + text + " by " + by, x.plan(by, 1), cost);
        due("19: order of " + text + " by " + by, x.plan(by, 2), order);
        due("19: steps of " + text, x.plan(by, 3), steps);
    }

    private static void plan() {
        JoinWays x = pair();
        planIs(x, "0", 0, 1, 2, 0, 0);
        planIs(x, "1", 1, 2, 3, 1, 0);
        // 2 and 3 pages, and 3 times (2 by 1, less 1)
        planIs(x, "(0l1)", 0, 3, 8, 0, 1);
        planIs(x, "(1l0)", 0, 3, 9, 1, 1);
        planIs(x, "(0p1)", 0, 3, 15, NONE, 1);
        // table 0 is sorted by 0, so it is sorted by 1: 4 pages; table 1 is
        planIs(x, "(0s1)", 0, 3, 9, 1, 1);
        planIs(x, "(1s0)", 1, 3, 9, 1, 1);
        x.rule(1, 4);
        planIs(x, "(0l1)", 0, 3, 5, 0, 1);
        // 3 pages by 2, rounded up, less 1, times 2
        planIs(x, "(1l0)", 0, 3, 7, 1, 1);
        planIs(x, "(0p1)", 0, 3, 5, NONE, 1);
        x.rule(1, 3);
        x.table(4, 1);
        x.row(2, 8, 0, 0);
        x.row(2, 7, 0, 0);
        // (0l1) costs 8 and has 2 pages; table 2 has 2: 8 and 2, 2 times (2 less 1)
        planIs(x, "((0l1)l2)", 0, 7, 12, 0, 2);
        planIs(x, "(2l(0l1))", 0, 7, 12, NONE, 2);
        planIs(x, "((0l1)p2)", 0, 7, 18, NONE, 2);
        // both sides are sorted by 2: 4 and 4
        planIs(x, "((0l1)s2)", 0, 7, 18, 2, 2);
        x.sort(2, 2);
        planIs(x, "((0l1)s2)", 0, 7, 14, 2, 2);
        planIs(x, "(2l(0s1))", 0, 7, 13, 2, 2);
        x.rule(0, 1);
        // true: 4 pages of both; 2 times (4 less 1) beyond 8 and 2
        planIs(x, "((0l1)l2)", 0, 7, 16, 0, 2);
        x.row(1, 9, 0, 0);
        // by then table 1 has 4 pages: (0l1) costs 2, 4, 4; foretold 12 by 2 are 6 pages, true 4
        planIs(x, "((0l1)l2)", 1, 7, 22, 0, 2);
        planIs(x, "((0l1)l2)", 0, 7, 18, 0, 2);
        for (int bad : new int[] {-1, 2, LEAST, GREATEST}) {
            due("19: plan(" + bad + ", 0)", x.plan(bad, 0), OUTSIDE);
        }
        for (int bad : new int[] {-1, 4, LEAST, GREATEST}) {
            due("19: plan(0, " + bad + ")", x.plan(0, bad), OUTSIDE);
        }
    }

    private static void planThatCannotBeDone() {
        JoinWays x = empty(1, 2, 3);
        for (String text : new String[] {"(0p1)", "(0s1)"}) {
            planIs(x, text, 0, 3, -2, -2, 1);
        }
        planIs(x, "((0p1)l2)", 1, 7, -2, -2, 2);
        planIs(x, "(2l(0s1))", 1, 7, -2, -2, 2);
        planIs(x, "((0l1)p2)", 0, 7, 0, NONE, 2);
        planIs(x, "((0l1)s2)", 0, 7, 0, 0, 2);
    }

    private static void planSorting() {
        // both are sorted by 0, not by 1, and share 1 alone, or 0 and 1
        JoinWays x = empty(3, 2, 3);
        for (int i = 0; i < 4; i++) {
            x.row(0, i, 9 - i, 0);
            x.row(1, 9 - i, 0, 0);
            x.row(2, i, i, 0);
        }
        // 4 pages by 3, rounded up, are 2; divided by 2 they are 1: two passes, 16
        planIs(x, "(0s1)", 0, 3, 4 + 4 + 16 + 16, 1, 1);
        // the least letter that both share is 0, and both are sorted by it
        planIs(x, "(0s2)", 0, 5, 8, 0, 1);
        // table 2 rises by 0 and by 1, but it is sorted by 0 alone
        planIs(x, "(1s2)", 0, 6, 4 + 4 + 16 + 16, 1, 1);
        // what parts leave is sorted by none: no joined row, so nothing to sort
        planIs(x, "((0p2)s1)", 0, 7, 8 + 16 + 0 + 4 + 16, 1, 2);
        // what is sorted stays so in loops
        planIs(x, "((0s2)l1)", 0, 7, 8 + 4, 0, 2);
        x.rule(1, 4);
        planIs(x, "(0s1)", 0, 3, 4 + 4 + 8 + 8, 1, 1);
    }

    /** Table t has the numbers 0 to t, one on a page, so tables k to 5 have k + 1 joined rows. */
    private static void planOfSix() {
        JoinWays x = empty(1, 1, 1, 1, 1, 1);
        for (int t = 0; t < 6; t++) {
            for (int i = 0; i <= t; i++) {
                x.row(t, i, 0, 0);
            }
        }
        int own = 1 + 2 + 3 + 4 + 5 + 6;
        int outer = 2 * 1 + 2 * 2 + 3 * 3;
        planIs(x, "(0l(1l(2l(3l(4l5)))))", 0, 63, own + outer + 6 * 4, 0, 5);
        planIs(x, "(0l(1l(2l(3l(4p5)))))", 0, 63, own + outer + 2 * (5 + 6), 0, 5);
        planIs(x, "(0l(1l(2l(3l(4s5)))))", 0, 63, own + outer, 0, 5);
        // to the left: pages 1 and 6, then 1 of one joined row each
        planIs(x, "(((((0l5)l4)l3)l2)l1)", 0, 63, own, 0, 5);
        planIs(x, "(((((5l0)p4)p3)p2)p1)", 0, 63, own + 5, NONE, 5);
    }

    private static void planOfNoPlan() {
        JoinWays x = pair();
        for (String text : new String[] {"", "(", "(0", "(0l", "(0l1", "(0l1))", "01", "2", "(0l2)", "(0l0)", "((0l1))", "x", " 0"}) {
            write(x, text);
            due("19: plan(0, 0) of " + text, x.plan(0, 0), STATE);
            due("19: plan(1, 3) of " + text, x.plan(1, 3), STATE);
            due("19: plan(2, 0) of " + text, x.plan(2, 0), OUTSIDE);
            due("19: plan(0, 4) of " + text, x.plan(0, 4), OUTSIDE);
        }
    }

    private static void best() {
        JoinWays x = pair();
        due("20: best of one table", x.best(1, 0, 0, NONE), 2);
        due("20: sorted already", x.best(1, 0, 0, 0), 2);
        due("20: sorted then", x.best(1, 1, 1, 1), 6);
        due("20: best of both", x.best(3, 0, 0, NONE), 8);
        due("20: kept as the left side is", x.best(3, 0, 0, 0), 8);
        due("20: by sorted rows", x.best(3, 0, 0, 1), 9);
        due("20: sorted in the end", x.best(3, 0, 0, 2), 12);
        due("20: a letter of none", x.best(3, 0, 0, 7), 12);
        due("20: a letter of none, foretold", x.best(3, 1, 1, 7), 12);
        due("20: done", x.count(4), 9);
        due("20: nothing to read", empty(1, 1).best(3, 0, 0, 0), 0);
        x.sort(0, 1);
        x.row(0, 0, 0, 0);
        // table 0 is sorted by none now, its two pages are full
        due("20: the left side is sorted by none", x.best(3, 0, 0, NONE), 8);
        due("20: and then it is sorted", x.best(3, 0, 0, 0), 12);
    }

    /**
     * Two pairs of tables, 2 pages each, all sorted; a pair shares a letter and has one joined row of
     * 64, foretold are 32; one joined row on a page.
     */
    private static JoinWays twoPairs() {
        JoinWays x = new JoinWays();
        for (int t = 0; t < 4; t++) {
            x.table(t < 2 ? 1 : 2, 4);
            x.row(t, 0, 0, 0);
            for (int i = 1; i < 8; i++) {
                x.row(t, 1 + t % 2, 0, 0);
            }
        }
        x.rule(0, 1);
        return x;
    }

    private static void bestShapes() {
        JoinWays x = twoPairs();
        due("20: one joined row", x.size(3, 0), 1);
        due("20: foretold ones", x.size(3, 1), 32);
        // each pair by sorted rows for nothing, then loops of one page
        due("20: in all shapes", x.best(15, 0, 0, NONE), 8);
        textIs(x, 15, 0, NONE, "((0s1)l(2s3))");
        // a third table makes 8 pages: loops read the fourth seven times more
        due("20: in a row", x.best(15, 1, 0, NONE), 22);
        textIs(x, 15, 1, NONE, "(((0s1)l2)l3)");
        due("20: sorted by the left pair", x.best(15, 0, 0, 0), 8);
        // by the other pair: it stands at the left then
        due("20: sorted by the right pair", x.best(15, 0, 0, 1), 8);
        x.rule(1, 4);
        due("20: with memory in all shapes", x.best(15, 0, 0, NONE), 8);
        // loops would read the fourth three times more, but parts of its two pages are for nothing
        due("20: with memory in a row", x.best(15, 1, 0, NONE), 8);
        textIs(x, 15, 1, NONE, "(((0l1)l2)p3)");
    }

    private static void bestRefusals() {
        JoinWays x = pair();
        long before = x.digest();
        for (int bad : new int[] {-2, 8, LEAST, GREATEST}) {
            refused(x, "20: set " + bad, before, x.best(bad, 0, 0, NONE), OUTSIDE);
            refused(x, "20: shape " + bad, before, x.best(1, bad, 0, NONE), OUTSIDE);
            refused(x, "20: by " + bad, before, x.best(1, 0, bad, NONE), OUTSIDE);
            refused(x, "20: letter " + bad, before, x.best(1, 0, 0, bad), OUTSIDE);
            refused(x, "21: set " + bad, before, x.sign(bad, 0, 0, NONE, 0), OUTSIDE);
            refused(x, "21: shape " + bad, before, x.sign(1, bad, 0, NONE, 0), OUTSIDE);
            refused(x, "21: by " + bad, before, x.sign(1, 0, bad, NONE, 0), OUTSIDE);
            refused(x, "21: letter " + bad, before, x.sign(1, 0, 0, bad, 0), OUTSIDE);
            refused(x, "22: set " + bad, before, x.regret(bad, 0), OUTSIDE);
            refused(x, "22: shape " + bad, before, x.regret(1, bad), OUTSIDE);
        }
        refused(x, "20: set 0", before, x.best(0, 0, 0, NONE), OUTSIDE);
        refused(x, "20: set 4", before, x.best(4, 0, 0, NONE), OUTSIDE);
        refused(x, "20: shape 2", before, x.best(1, 2, 0, NONE), OUTSIDE);
        refused(x, "20: shape -1", before, x.best(1, -1, 0, NONE), OUTSIDE);
        refused(x, "20: by 2", before, x.best(1, 0, 2, NONE), OUTSIDE);
        refused(x, "20: by -1", before, x.best(1, 0, -1, NONE), OUTSIDE);
        for (int n = 0; n < 60; n++) {
            int got = n % 3 == 0 ? x.best(1, 0, 0, NONE) : n % 3 == 1 ? x.sign(1, 0, 0, NONE, 5) : x.regret(1, 0);
            due("20 to 22: the " + n + "-th", got, n % 3 == 0 ? 2 : n % 3 == 1 ? NONE : 0);
            due("20 to 22: they are counted", x.count(4), n + 1);
        }
        long then = x.digest();
        refused(x, "20: the 61st", then, x.best(1, 0, 0, NONE), STATE);
        refused(x, "21: the 61st", then, x.sign(1, 0, 0, NONE, 0), STATE);
        refused(x, "22: the 61st", then, x.regret(1, 0), STATE);
        refused(x, "20: the 61st, set 0", then, x.best(0, 0, 0, NONE), OUTSIDE);
        refused(x, "21: the 61st, set 0", then, x.sign(0, 0, 0, NONE, 0), OUTSIDE);
        refused(x, "22: the 61st, set 0", then, x.regret(0, 0), OUTSIDE);
    }

    private static void sortings() {
        JoinWays x = new JoinWays();
        x.table(1, 1);
        x.fill(0, 1, 8, 10);
        // 8 pages: 3 runs, 2, 1 with 3 pages; 2 runs, 1 with 4 to 7; one run with 8 and 9
        int[] passes = {3, 2, 2, 2, 2, 1, 1};
        for (int memory = 3; memory <= 9; memory++) {
            x.rule(1, memory);
            due("20: sorting of 8 pages by " + memory, x.best(1, 0, 0, 5), 8 + 16 * passes[memory - 3]);
        }
        x.rule(1, 3);
        int[] ofPages = {0, 1, 1, 1, 2, 2, 2, 3};
        for (int pages = 7; pages >= 0; pages--) {
            x.drop(0, 0);
            due("20: sorting of " + pages + " pages", x.best(1, 0, 0, 5), pages + 2 * pages * ofPages[pages]);
        }
    }

    private static String textOf(JoinWays x, int set, int shape, int by, int letter) {
        StringBuilder text = new StringBuilder();
        for (int i = 0; i < 30; i++) {
            int sign = x.sign(set, shape, by, letter, i);
            if (sign == NONE) {
                return text.toString();
            }
            text.append((char) sign);
        }
        return text.toString();
    }

    private static void textIs(JoinWays x, int set, int shape, int letter, String want) {
        String got = textOf(x, set, shape, 0, letter);
        if (!got.equals(want)) {
            wrong++;
            System.out.println("21: the text of " + set + " wished by " + letter + " is " + got + ", due is " + want);
        }
    }

    private static void sign() {
        JoinWays x = pair();
        textIs(x, 2, 0, NONE, "1");
        textIs(x, 3, 0, NONE, "(0l1)");
        // (0s1) and (1l0) and (1s0) cost 9 each
        textIs(x, 3, 0, 1, "(0s1)");
        textIs(x, 3, 1, 2, "(0l1)");
        textIs(x, 3, 1, 6, "(0l1)");
        due("21: below 0", x.sign(3, 0, 0, NONE, -1), NONE);
        due("21: the least", x.sign(3, 0, 0, NONE, LEAST), NONE);
        due("21: the greatest", x.sign(3, 0, 0, NONE, GREATEST), NONE);
        // nothing costs anything: "(" is less than digits, l less than p less than s
        JoinWays free = empty(1, 1, 1, 1, 1, 1);
        textIs(free, 63, 0, NONE, "(((((0l1)l2)l3)l4)l5)");
        textIs(free, 44, 0, 3, "((2l3)l5)");
        textIs(free, 33, 1, 0, "(0l5)");
        // sorted by 0 is (1l0), but to sort nothing costs nothing
        textIs(empty(2, 1), 3, 0, 0, "(0l1)");
        textIs(empty(1, 2), 3, 0, 1, "(0l1)");
        JoinWays twice = empty(1, 1, 1, 1, 1, 1);
        textIs(twice, 63, 1, 0, "(((((0l1)l2)l3)l4)l5)");
    }

    private static void regret() {
        JoinWays x = pair();
        due("22: of one table", x.regret(1, 0), 0);
        due("22: of both", x.regret(3, 0), 0);
        due("22: in a row", x.regret(3, 1), 0);
        due("22: done", x.count(4), 3);
        JoinWays y = twoPairs();
        // true: ((0s1)l2) for 6; foretold it costs 68, and ((0l2)s1) 8, as it does by true sizes
        due("22: true", y.best(7, 0, 0, NONE), 6);
        due("22: foretold", y.best(7, 0, 1, NONE), 8);
        due("22: regret", y.regret(7, 0), 2);
        due("22: regret in a row", y.regret(7, 1), 2);
        y.rule(1, 4);
        // loops of two pages are for nothing now: ((0l2)s1) costs 6
        due("22: no regret with memory", y.regret(7, 0), 0);
    }

    private static void hangs() {
        JoinWays x = empty(3, 6, 5, 7, 128);
        due("23: one table", x.hangs(1), 1);
        due("23: two tables", x.hangs(3), 1);
        due("23: a ring of three", x.hangs(7), 0);
        due("23: a ring under one that has all", x.hangs(15), 1);
        due("23: two that share nothing", x.hangs(17), 1);
        due("23: a ring and one apart", x.hangs(23), 0);
        for (int set : new int[] {0, -1, 32, 63, LEAST, GREATEST}) {
            due("23: hangs(" + set + ")", x.hangs(set), OUTSIDE);
        }
        JoinWays ring = empty(3, 6, 12, 9);
        due("23: a ring of four", ring.hangs(15), 0);
        due("23: three of it", ring.hangs(7), 1);
        due("23: others of it", ring.hangs(13), 1);
    }

    private static void hangsOnLeast() {
        // table 0 shares 1 with both others: the least of them
        JoinWays x = empty(3, 2, 6);
        due("23: the least that has all", x.on(7, 0), 1);
        due("23: what shares nothing hangs on the least", empty(1, 2, 4).on(7, 1), 2);
        JoinWays y = empty(2, 1, 3);
        due("25: not the least, but one that has all", y.on(7, 0), 2);
    }

    private static void goesAre(JoinWays x, int set, int... want) {
        for (int i = 0; i < want.length; i++) {
            due("24: goes(" + set + ", " + i + ")", x.goes(set, i), want[i]);
        }
        due("24: goes(" + set + ", " + want.length + ")", x.goes(set, want.length), NONE);
    }

    private static void goes() {
        JoinWays x = empty(3, 6, 5, 7, 128);
        goesAre(x, 1, 0);
        goesAre(x, 3, 0, 1);
        goesAre(x, 7);
        goesAre(x, 15, 0, 1, 2, 3);
        // the one apart may go, the ring may not
        goesAre(x, 23, 4);
        // the middle of a chain goes when its end has gone
        goesAre(empty(6, 3, 12), 7, 1, 0, 2);
        // the middle of a star never goes ahead of all but one
        goesAre(empty(7, 1, 2, 4), 15, 1, 2, 0, 3);
        due("24: below 0", x.goes(3, -1), NONE);
        due("24: the least", x.goes(3, LEAST), NONE);
        due("24: the greatest", x.goes(3, GREATEST), NONE);
        for (int set : new int[] {0, -1, 32, LEAST, GREATEST}) {
            due("24: goes(" + set + ", 0)", x.goes(set, 0), OUTSIDE);
        }
    }

    private static void on() {
        JoinWays x = empty(3, 6, 5, 7, 128);
        due("25: the first hangs on the other", x.on(3, 0), 1);
        due("25: the last hangs on none", x.on(3, 1), NONE);
        due("25: alone", x.on(4, 2), NONE);
        due("25: on the one that has all", x.on(15, 0), 3);
        due("25: and the next", x.on(15, 1), 3);
        due("25: never goes", x.on(23, 0), NONE);
        due("25: goes though others never do", x.on(23, 4), 0);
        JoinWays chain = empty(6, 3, 12);
        due("25: the end of a chain", chain.on(7, 1), 0);
        due("25: its middle", chain.on(7, 0), 2);
        for (int set : new int[] {0, -1, 32, LEAST, GREATEST}) {
            due("25: on(" + set + ", 9)", x.on(set, 9), OUTSIDE);
        }
        for (int t : new int[] {-1, 2, 5, 32, LEAST, GREATEST}) {
            due("25: on(3, " + t + ")", x.on(3, t), UNKNOWN);
        }
    }

    /** A chain of 0 (letters 0, 1), 1 (letters 1, 2), 2 (letters 2, 3), and what does not fit of each. */
    private static JoinWays chain() {
        JoinWays x = empty(3, 6, 12);
        x.row(0, 1, 1, 0);
        x.row(0, 1, 2, 0);
        x.row(0, 1, 3, 0);
        x.row(1, 1, 1, 0);
        x.row(1, 2, 2, 0);
        x.row(1, 9, 1, 0);
        x.row(1, 1, 5, 0);
        x.row(2, 1, 0, 0);
        x.row(2, 7, 0, 0);
        x.row(2, 5, 0, 0);
        return x;
    }

    private static void left() {
        JoinWays x = chain();
        due("26: left(7, 0)", x.left(7, 0), 0b001);
        due("26: left(7, 1)", x.left(7, 1), 0b1001);
        due("26: left(7, 2)", x.left(7, 2), 0b101);
        due("26: of two", x.left(3, 0), 0b011);
        due("26: of two, the other", x.left(3, 1), 0b1011);
        due("26: of one", x.left(4, 2), 0b111);
        due("26: rows stay", x.count(1), 10);
        for (int set : new int[] {0, -1, 8, LEAST, GREATEST}) {
            due("26: left(" + set + ", 9)", x.left(set, 9), OUTSIDE);
        }
        for (int t : new int[] {-1, 2, 3, 32, LEAST, GREATEST}) {
            due("26: left(3, " + t + ")", x.left(3, t), UNKNOWN);
        }
        JoinWays ring = empty(3, 6, 5);
        due("26: a ring", ring.left(7, 0), STATE);
        due("26: a ring, a table that is not in it", ring.left(7, 3), UNKNOWN);
        due("26: two of a ring", ring.left(3, 0), 0);
    }

    private static void leftWithoutShared() {
        JoinWays x = empty(1, 2);
        x.row(0, 1, 0, 0);
        x.row(0, 2, 0, 0);
        due("26: none to go with", x.left(3, 0), 0);
        due("27: none to go with", x.steps(3), 2);
        x.row(1, 9, 0, 0);
        due("26: each fits, if there is one", x.left(3, 0), 3);
        due("26: each fits, the other", x.left(3, 1), 1);
        due("27: each fits", x.steps(3), 0);
        x.drop(0, 0);
        x.drop(0, 0);
        due("26: none of the first", x.left(3, 1), 0);
        JoinWays full = empty(1, 1);
        full.fill(0, 3, 8, 1);
        full.fill(1, 3, 1, 1);
        due("26: eight rows", full.left(3, 0), 255);
    }

    private static void steps() {
        JoinWays x = chain();
        due("27: steps(7)", x.steps(7), 2 + 2 + 1);
        due("27: steps(3)", x.steps(3), 1 + 1);
        due("27: steps(1)", x.steps(1), 0);
        due("27: again", x.steps(7), 5);
        for (int set : new int[] {0, -1, 8, LEAST, GREATEST}) {
            due("27: steps(" + set + ")", x.steps(set), OUTSIDE);
        }
        due("27: a ring", empty(3, 6, 5).steps(7), STATE);
    }

    private static void cover() {
        JoinWays x = empty(3, 6, 12, 9, 1, 4);
        due("28: one", x.cover(1), 1);
        due("28: two that must be", x.cover(3), 3);
        due("28: two of a ring", x.cover(15), 0b0101);
        due("28: the others of a ring", x.cover(0b1110), 0b1010);
        due("28: one has all of the other", x.cover(0b100010), 0b000010);
        due("28: one has all of the lesser one", x.cover(0b010001), 0b000001);
        due("28: of like ones the least bits", x.cover(63), 0b000101);
        JoinWays same = empty(7, 7, 1, 2, 4);
        due("28: the least of two", same.cover(3), 1);
        due("28: fewest, not least", same.cover(0b11110), 0b00010);
        for (int set : new int[] {0, -1, 64, LEAST, GREATEST}) {
            due("28: cover(" + set + ")", x.cover(set), OUTSIDE);
        }
    }

    private static void count() {
        JoinWays x = pair();
        write(x, "(0l1");
        x.best(3, 0, 0, NONE);
        x.regret(3, 0);
        int[] want = {2, 6, 4, 3, 2};
        for (int what = 0; what <= 4; what++) {
            due("29: count(" + what + ")", x.count(what), want[what]);
        }
        for (int bad : new int[] {-1, 5, LEAST, GREATEST}) {
            due("29: count(" + bad + ")", x.count(bad), OUTSIDE);
        }
        due("29: letters of all", empty(7, 56, 192, 1, 1, 1).count(3), 8);
    }

    private static void digest() {
        JoinWays x = pair();
        write(x, "(0");
        x.rule(0, 5);
        x.rule(1, 4);
        x.best(1, 0, 0, NONE);
        long want = hash(3, 2, 3, 2, 0, 1, 5, 2, 5, 3, 6, 6, 1, 3, 3, 1, 5, 7, 5, 8, 9, 9,
                5, 4, 4, 4, 1, 3, '(', '0', 2, 6, 2, 3, 1);
        due("30: digest()", x.digest(), want);
        due("30: again", x.digest(), want);
        JoinWays ring = empty(3, 6, 5);
        due("30: a ring without rows", ring.digest(), hash(3, 1, 0, 0, 0, 6, 1, 0, 0, 1, 5, 1, 0, 0, 0,
                2, 3, 0, 0, 0, 3, 3, 0, 0, 3, 0));
        ring.row(2, 2, 1, 0);
        ring.row(2, 1, 0, 0);
        due("30: sorted by none", ring.digest(), hash(3, 1, 0, 0, 0, 6, 1, 0, 0, 1, 5, 1, 2, 2, -1, 2, 1, 1, 0,
                2, 3, 0, 0, 0, 3, 3, 2, 0, 3, 0));
    }
}
