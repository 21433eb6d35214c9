/** Sentences of 'Terms' 2 and promises 16 to 22 that name a boundary case, each by itself. */
public final class PlanEdgesTest {
    private static final int NONE = Edge.NONE, OUTSIDE = Edge.OUTSIDE, STATE = Edge.STATE, FULL = Edge.FULL;
    private static final int LEAST = Edge.LEAST, GREATEST = Edge.GREATEST;
    private static final int CANNOT = -2;

    public static void main(String[] args) {
        bytesAreOneToHundredTwentySix();
        nothingBehindAZero();
        upToEightLetters();
        fortyLettersAtMost();
        lettersAreOutsideAheadOfFull();
        blankOfAnyPage();
        goodOfAnEmptyPage();
        goodOfEachSign();
        goodOfTablesThatThereAre();
        goodOfNoTableTwice();
        goodOpensAsManyAsThereAre();
        goodIsNotAskedWhatCanBeDone();
        planIsNoPlan();
        planOfTablesThatThereAre();
        planOfOneTable();
        planOfSixTables();
        planCannotBeDone();
        planIsByZeroOrOne();
        loopsAboveMemory();
        partsAboveMemory();
        sortedRowsNeedNoSorting();
        sortedByTheLeastShared();
        sortingOfNothing();
        sortingPasses();
        sortedAsTheLeftSideIs();
        bestOfOneAndOfSix();
        bestInARow();
        bestIsOfLeastText();
        bestIsOfLeastTextIfSortedThen();
        bestCanBeDone();
        bestWishesALetter();
        bestIsOutside();
        sixtyTimesTogether();
        sixtyTimesEach();
        sixtyTimesNone();
        signNone();
        regretOfNothing();
        regretOfWhatWasForetold();
        regretIsOutside();
        Edge.end("all edges of plans hold");
    }

    private static void bytesAreOneToHundredTwentySix() {
        for (int place = 0; place < 8; place++) {
            Edge e = new Edge("16: OUTSIDE: a byte above 126; at place " + place);
            long ahead = Edge.word("abcdefg".substring(0, place));
            for (int code : new int[] {127, 128, 129, 254, 255}) {
                e.refuses("byte " + code, e.x.letters(ahead | (long) code << 8 * place), OUTSIDE);
            }
            e.takes("byte 126", e.x.letters(ahead | 126L << 8 * place), place + 1);
            e.takes("byte 1", e.x.letters(ahead | 1L << 8 * place), 2 * place + 2);
        }
        Edge e = new Edge("16: OUTSIDE: a byte above 126, far off");
        e.refuses("the least", e.x.letters(Long.MIN_VALUE), OUTSIDE);
        e.refuses("-1", e.x.letters(-1), OUTSIDE);
        e.refuses("the greatest", e.x.letters(Long.MAX_VALUE), OUTSIDE);
        e.refuses("127 behind a 0", e.x.letters(127L << 8), OUTSIDE);
    }

    private static void nothingBehindAZero() {
        for (int zero = 0; zero < 7; zero++) {
            Edge e = new Edge("16: OUTSIDE: one behind a 0 that is not 0; the 0 at place " + zero);
            long ahead = Edge.word("abcdefg".substring(0, zero));
            for (int place = zero + 1; place < 8; place++) {
                e.refuses("byte 1 at " + place, e.x.letters(ahead | 1L << 8 * place), OUTSIDE);
                e.refuses("byte 126 at " + place, e.x.letters(ahead | 126L << 8 * place), OUTSIDE);
            }
            e.takes("no byte behind it", e.x.letters(ahead), zero);
        }
    }

    private static void upToEightLetters() {
        Edge e = new Edge("16: up to eight, the lowest byte first");
        e.tells("none", e.x.letters(0), 0);
        e.takes("eight", e.x.letters(Edge.word("(0l1)xyz")), 8);
        e.bare(1, 1);
        e.tells("they stand in order", e.x.good(), 5);
        e.takes("one more", e.x.letters('0'), 9);
    }

    private static void fortyLettersAtMost() {
        for (int there = 32; there <= 40; there++) {
            for (int come = 0; come <= 8; come++) {
                Edge e = new Edge("16: FULL: above 40");
                e.page("abcdefghijklmnopqrstuvwxyzABCDEFGHIJKLMN".substring(0, there));
                long w = Edge.word("01234567".substring(0, come));
                if (there + come > 40) {
                    e.refuses(come + " behind " + there, e.x.letters(w), FULL);
                    e.tells("they are as many as before", e.x.count(2), there);
                } else {
                    e.takes(come + " behind " + there, e.x.letters(w), there + come);
                }
            }
        }
    }

    private static void lettersAreOutsideAheadOfFull() {
        Edge e = new Edge("16: OUTSIDE ahead of FULL").page("abcdefghijklmnopqrstuvwxyzABCDEFGHIJKLMN");
        e.tells("it is full", e.x.count(2), 40);
        e.refuses("one more", e.x.letters('a'), FULL);
        e.refuses("127", e.x.letters(127), OUTSIDE);
        e.refuses("one behind a 0", e.x.letters(1L << 8), OUTSIDE);
        e.refuses("eight, the last above 126", e.x.letters(Edge.word("abcdefg") | 127L << 56), OUTSIDE);
        e.tells("none", e.x.letters(0), 40);
    }

    private static void blankOfAnyPage() {
        Edge e = new Edge("17: THE PAGE is empty: how many letters it had");
        e.tells("empty", e.x.blank(), 0);
        e.takes("one letter", e.x.letters('x'), 1);
        e.takes("of one", e.x.blank(), 1);
        e.tells("empty again", e.x.blank(), 0);
        e.page("abcdefghijklmnopqrstuvwxyzABCDEFGHIJKLMN");
        e.takes("of forty", e.x.blank(), 40);
        e.tells("none is told", e.x.count(2), 0);
        e.takes("room again", e.x.letters(Edge.word("01234567")), 8);
        Edge trace = new Edge("17: nothing of it is left").bare(1, 1).page("(0l1)");
        trace.tells("a PLAN", trace.x.plan(0, 0), 3);
        for (int length = 0; length < 5; length++) {
            trace.page("(0l1)").page("(0l1)".substring(0, length));
            trace.tells("good() of the first " + length, trace.x.good(), length);
            trace.refuses("plan(0, 0) of the first " + length, trace.x.plan(0, 0), STATE);
        }
        trace.page("(0l1)").page("1");
        trace.tells("a TABLE alone", trace.x.plan(0, 0), 2);
        trace.tells("its steps", trace.x.plan(0, 3), 0);
    }

    private static void good(Edge e, String text, int want) {
        e.page(text);
        e.tells("good() of " + text, e.x.good(), want);
    }

    private static void goodOfAnEmptyPage() {
        Edge e = new Edge("18: an empty PAGE");
        e.tells("without TABLES", e.x.good(), 0);
        e.bare(1, 1);
        e.tells("with TABLES", e.x.good(), 0);
        e.refuses("it is no PLAN", e.x.plan(0, 0), STATE);
    }

    /** Of three TABLES, behind each kind of start: which of all signs may come next. */
    private static void goodOfEachSign() {
        String[] starts = {"", "(", "((", "(0", "(0l", "(0l(", "(0l1", "(0l1)", "((0l1)", "((0l1)p", "((0l1)p2", "2"};
        String[] next = {"(012", "(012", "012", "lps", "(12", "12", ")", "", "lps", "2", ")", ""};
        for (int k = 0; k < starts.length; k++) {
            Edge e = null;
            for (int code = 1; code <= 126; code++) {
                if (code % 42 == 1) {
                    e = new Edge("18: how many letters could go ahead of some others").bare(1, 1, 1);
                }
                int more = next[k].indexOf(code) >= 0 ? 1 : 0;
                good(e, starts[k] + (char) code, starts[k].length() + more);
            }
        }
    }

    private static void goodOfTablesThatThereAre() {
        for (int tables = 0; tables <= 6; tables++) {
            Edge e = new Edge("18: TABLES that there are: " + tables);
            for (int t = 0; t < tables; t++) {
                e.bare(1);
            }
            for (int t = 0; t <= 9; t++) {
                good(e, String.valueOf(t), t < tables ? 1 : 0);
                if (t < tables) {
                    e.tells("it is a PLAN", e.x.plan(0, 0), 1 << t);
                } else {
                    e.refuses("it is no PLAN", e.x.plan(0, 0), STATE);
                }
            }
        }
    }

    private static void goodOfNoTableTwice() {
        Edge e = new Edge("18: no TABLE twice").bare(1, 1, 1, 1);
        for (int t = 0; t < 4; t++) {
            good(e, "(" + t + "l" + t + ")", 3);
            e.refuses("it is no PLAN", e.x.plan(0, 0), STATE);
        }
        good(e, "((0l1)l0)", 7);
        good(e, "((0l1)l1)", 7);
        good(e, "((0l1)l(2l1))", 10);
        good(e, "(0l(1l(2l0)))", 9);
        good(e, "(0l(1l(2l3)))", 13);
    }

    private static void goodOpensAsManyAsThereAre() {
        for (int tables = 0; tables <= 6; tables++) {
            Edge e = new Edge("18: \"(\" only if as many TABLES are there: " + tables);
            for (int t = 0; t < tables; t++) {
                e.bare(1);
            }
            good(e, "((((((((", Math.max(0, tables - 1));
            // to the right: each "(" behind a TABLE and a WAY
            StringBuilder right = new StringBuilder();
            for (int t = 0; t < tables - 1; t++) {
                right.append("(").append(t).append("s");
            }
            good(e, right + "(", right.length());
            good(e, right + String.valueOf(tables), right.length());
            if (tables > 0) {
                good(e, right + String.valueOf(tables - 1), right.length() + 1);
            }
        }
        Edge e = new Edge("18: as many as are told then and yet due").bare(1, 1, 1, 1);
        good(e, "((0l1)l(2l(", 10);
        good(e, "((0l(1l(", 7);
        good(e, "((0l(1l2)", 9);
        good(e, "(((0l1)l(", 8);
        good(e, "(((0l1)l2)l(", 11);
    }

    private static void goodIsNotAskedWhatCanBeDone() {
        Edge e = new Edge("18: a PLAN that cannot be done is one").bare(1, 2);
        good(e, "(0p1)", 5);
        good(e, "(0s1)", 5);
        e.tells("its SET", e.x.plan(0, 0), 3);
        Edge apart = new Edge("18: each letter of it may go ahead of some others, done or not").bare(1, 2, 4);
        for (String text : new String[] {"((0p1)s2)", "((2s1)p0)", "(1s(0p2))", "(2p(1l0))"}) {
            for (int length = 1; length < text.length(); length++) {
                good(apart, text.substring(0, length), length);
                apart.refuses("it is no PLAN yet", apart.x.plan(0, 1), STATE);
            }
            good(apart, text, text.length());
            apart.tells("it is a PLAN", apart.x.plan(0, 0), 7);
            apart.tells("that cannot be done", apart.x.plan(0, 1), CANNOT);
            apart.tells("and is SORTED by nothing that can be told", apart.x.plan(0, 2), CANNOT);
        }
    }

    private static void planIsNoPlan() {
        Edge e = new Edge("19: STATE: it is no PLAN").bare(1, 1, 1);
        for (String text : new String[] {"", "(", ")", "l", "(0", "(0l", "(0l1", "(0l1))", "(0l1)l", "(0l1)2", "01",
            "3", "(0l3)", "(0l0)", "((0l1))", "(0)", "()", "(0x1)", "(0l1)\001", "0 ", "((0l1)l2", "(l01)"}) {
            e.page(text);
            for (int what = 0; what < 4; what++) {
                e.refuses("plan(" + what % 2 + ", " + what + ") of " + text, e.x.plan(what % 2, what), STATE);
            }
        }
    }

    /** A text of six TABLES that stays on THE PAGE while they are made, one by one. */
    private static void planOfTablesThatThereAre() {
        String[] texts = {"(0l(1l(2l(3l(4l5)))))", "(((((0p1)p2)p3)p4)p5)", "((5s4)l((3s2)p(1l0)))"};
        // what ends them: a "(" too many, or, in the last one, TABLE 5 behind two of them
        int[][] goods = {{0, 0, 3, 6, 9, 12, 21}, {0, 0, 1, 2, 3, 4, 21}, {0, 0, 1, 2, 2, 2, 21}};
        for (int k = 0; k < texts.length; k++) {
            Edge e = new Edge("18, 19: a PLAN of TABLES that there are: " + texts[k]).page(texts[k]);
            for (int tables = 0; tables <= 6; tables++) {
                if (tables > 0) {
                    e.bare(1);
                }
                e.tells("good() of " + tables, e.x.good(), goods[k][tables]);
                for (int what = 0; what < 4; what++) {
                    if (tables < 6) {
                        e.refuses("a TABLE is not there, " + what, e.x.plan(0, what), STATE);
                    }
                }
            }
            e.tells("all are there: its SET", e.x.plan(0, 0), 63);
            e.tells("all are there: its COST", e.x.plan(1, 1), 0);
            e.tells("all are there: its steps", e.x.plan(0, 3), 5);
        }
    }

    private static void planOfOneTable() {
        Edge e = new Edge("19: a TABLE alone, by none").table(3, 3, new int[][] {{1, 2}, {2, 1}, {1, 1}, {0, 5}}).bare(4);
        e.page("0");
        for (int by = 0; by < 2; by++) {
            e.tells("SET", e.x.plan(by, 0), 1);
            e.tells("COST: its PAGES", e.x.plan(by, 1), 2);
            e.tells("SORTED by NONE", e.x.plan(by, 2), NONE);
            e.tells("steps", e.x.plan(by, 3), 0);
        }
        e.page("1");
        e.tells("SET", e.x.plan(0, 0), 2);
        e.tells("COST of no PAGES", e.x.plan(0, 1), 0);
        e.tells("SORTED without ROWS", e.x.plan(0, 2), 2);
    }

    /** Table t has the numbers 0 to t, a page each: k to 5 have k + 1 joined rows, a page each too. */
    private static void planOfSixTables() {
        Edge e = new Edge("19: PLANS of all six TABLES, to the right and to the left").rules(1, 3);
        for (int t = 0; t < 6; t++) {
            e.column(0, Edge.rising(t + 1));
        }
        int read = 1 + 2 + 3 + 4 + 5 + 6;
        String[] texts = {"(0l(1l(2l(3l(4l5)))))", "(0p(1p(2p(3p(4p5)))))", "(0s(1s(2s(3s(4s5)))))", "(((((0l5)l4)l3)l2)l1)",
            "(((((5l4)l3)l2)l1)l0)"};
        // to the right a TABLE of k PAGES meets k + 1 of all behind it; to the left what is joined meets one PAGE less
        int[] more = {3 * 1 + 4 * 2 + 5 * 3 + 6 * 4, 2 * (2 + 3) + 2 * (3 + 4) + 2 * (4 + 5) + 2 * (5 + 6), 0, 0,
            5 * 5 + 4 * 4 + 3 * 3 + 2 * 2 + 1};
        for (int k = 0; k < texts.length; k++) {
            e.page(texts[k]);
            e.tells("good() of " + texts[k], e.x.good(), 21);
            e.tells("SET of " + texts[k], e.x.plan(0, 0), 63);
            e.tells("COST of " + texts[k], e.x.plan(0, 1), read + more[k]);
            e.tells("order of " + texts[k], e.x.plan(0, 2), k == 1 ? NONE : 0);
            e.tells("steps of " + texts[k], e.x.plan(1, 3), 5);
        }
    }

    private static void planCannotBeDone() {
        Edge e = new Edge("19: -2: it cannot be done (what 1, 2)").column(0, 1).column(1, 1).table(3, 1, new int[][] {{1, 1}});
        String[] texts = {"(0p1)", "(0s1)", "(1p0)", "((0p1)l2)", "((0s1)p2)", "(2l(0p1))", "(2s(1s0))"};
        for (String text : texts) {
            e.page(text);
            int tables = text.length() > 5 ? 3 : 2;
            for (int by = 0; by < 2; by++) {
                e.tells("SET of " + text, e.x.plan(by, 0), (1 << tables) - 1);
                e.tells("COST of " + text, e.x.plan(by, 1), CANNOT);
                e.tells("order of " + text, e.x.plan(by, 2), CANNOT);
                e.tells("steps of " + text, e.x.plan(by, 3), tables - 1);
            }
        }
        // table 2 is sorted by 0: by 1 its page is sorted for 2, and so is a page that parts leave
        String[] others = {"(0l1)", "(0p2)", "(1s2)", "((0l1)p2)", "(2s(0l1))", "((0p2)s1)"};
        int[] costs = {2, 2, 2 + 2, 3, 3, 3 + 2};
        for (int k = 0; k < others.length; k++) {
            e.page(others[k]);
            e.tells("COST of " + others[k], e.x.plan(0, 1), costs[k]);
        }
    }

    private static void planIsByZeroOrOne() {
        Edge e = new Edge("19: OUTSIDE: by (0, 1), what, ahead of STATE").column(0, 1);
        for (String text : new String[] {"0", "", "(0"}) {
            e.page(text);
            for (int by : new int[] {LEAST, -1, 2, GREATEST}) {
                e.refuses("plan(" + by + ", 0) of " + text, e.x.plan(by, 0), OUTSIDE);
                e.refuses("plan(" + by + ", 4) of " + text, e.x.plan(by, 4), OUTSIDE);
            }
            for (int what : new int[] {LEAST, -1, 4, GREATEST}) {
                e.refuses("plan(0, " + what + ") of " + text, e.x.plan(0, what), OUTSIDE);
                e.refuses("plan(1, " + what + ") of " + text, e.x.plan(1, what), OUTSIDE);
            }
        }
        e.page("0");
        e.tells("plan(0, 0)", e.x.plan(0, 0), 1);
        e.tells("plan(1, 3)", e.x.plan(1, 3), 0);
    }

    private static void loopsAboveMemory() {
        for (int a = 0; a <= 8; a++) {
            Edge e = new Edge("l: if a is above M less 2, b times (a by M less 2, rounded up, less 1)");
            e.column(0, Edge.rising(a)).column(1, Edge.alike(5)).bare(1).page("(0l1)");
            for (int memory = 3; memory <= 9; memory++) {
                e.rules(2, memory);
                int again = 0;
                while ((again + 1) * (memory - 2) < a) {
                    again++;
                }
                e.tells(a + " PAGES by " + memory, e.x.plan(0, 1), a + 5 + 5 * again);
            }
            e.page("(0l2)");
            e.tells("b is 0", e.x.plan(0, 1), a);
        }
        Edge e = new Edge("l: a is that of the left SET, b that of the right one");
        e.column(0, 1, 2, 3).column(1, 1, 2).column(2, 1, 2, 3, 4).rules(1, 5);
        e.page("((0l1)l2)");
        // (0l1): 3 and 2; six joined rows, six pages, by 3: once more
        e.tells("a is six", e.x.plan(0, 1), 5 + 4 + 4);
        e.page("(2l(0l1))");
        e.tells("b is six, a is four", e.x.plan(0, 1), 4 + 5 + 6);
    }

    private static void partsAboveMemory() {
        for (int a = 0; a <= 8; a++) {
            Edge e = new Edge("p: if the lesser of a and b is above M less 2, twice a and b together");
            e.column(0, Edge.rising(a)).bare(1);
            for (int b = 1; b <= 8; b++) {
                e.takes("a ROW", e.x.row(1, 9, 0, 0), b);
                for (int memory : new int[] {3, Math.min(9, Math.max(3, b + 1)), Math.min(9, b + 2), 9}) {
                    e.rules(2, memory);
                    e.page(b % 2 == 0 ? "(0p1)" : "(1p0)");
                    boolean both = a > memory - 2 && b > memory - 2;
                    e.tells(a + " and " + b + " by " + memory, e.x.plan(1, 1), a + b + (both ? 2 * a + 2 * b : 0));
                }
            }
        }
    }

    private static void sortedRowsNeedNoSorting() {
        // three pages are sorted in one pass: twice three
        int[] up = {1, 2, 3};
        int[] down = {3, 2, 1};
        for (int which = 0; which < 4; which++) {
            Edge e = new Edge("s: for each side that is not SORTED by it the SORTING of its PAGES");
            e.column(4, which % 2 == 0 ? up : down).column(4, which < 2 ? up : down).page("(0s1)");
            e.tells("COST, " + which, e.x.plan(0, 1), 6 + 6 * (which % 2) + 6 * (which / 2));
            e.tells("SORTED by it", e.x.plan(0, 2), 4);
        }
    }

    private static void sortedByTheLeastShared() {
        Edge e = new Edge("s: the least such LETTER");
        e.table(0b101, 1, new int[][] {{1, 1}, {2, 2}}).table(0b101, 1, new int[][] {{1, 1}, {2, 2}}).column(2, 1, 2);
        e.column(1, 0);
        e.page("(0s1)");
        e.tells("of 0 and 2", e.x.plan(0, 2), 0);
        e.tells("both are SORTED by it", e.x.plan(0, 1), 4);
        e.page("(0s2)");
        e.tells("2 alone", e.x.plan(0, 2), 2);
        // by 2 its rows rise too, but the least of its letters is 0
        e.tells("a TABLE is SORTED by one LETTER alone", e.x.plan(0, 1), 4 + 4);
        e.page("((3l2)s0)");
        e.tells("of the left SET", e.x.plan(0, 2), 2);
        // two joined rows are one page, sorted by 1: twice; and table 0 twice two
        e.tells("both are sorted", e.x.plan(0, 1), 3 + 2 + 2 + 4);
    }

    private static void sortingOfNothing() {
        Edge e = new Edge("SORTING of a PAGES: 0, if a is 0");
        e.column(0, 1).column(0, 2).column(0, 3).bare(2);
        e.page("((0p1)s2)");
        e.tells("no JOINED ROW, SORTED by none", e.x.plan(0, 1), 3);
        e.tells("foretold there is one: a PAGE", e.x.plan(1, 1), 3 + 2);
        e.takes("nothing to sort", e.x.best(8, 0, 0, 7), 0);
        e.takes("no JOINED ROW to sort", e.x.best(3, 0, 0, 7), 2);
        e.takes("one that is foretold", e.x.best(3, 0, 1, 7), 4);
    }

    /** A number of at most six factors of 1 to 8, as columns of that many like rows of unlike letters. */
    private static boolean spread(Edge e, int number) {
        int rest = number;
        int made = 0;
        for (int factor = 8; factor > 1; factor--) {
            while (rest % factor == 0 && rest > 1) {
                if (e != null) {
                    e.column(made, Edge.alike(factor));
                }
                rest /= factor;
                made++;
            }
        }
        while (e != null && made < 2) {
            e.column(made, 0);
            made++;
        }
        return rest == 1 && made <= 6;
    }

    private static void sortingIs(int pages, int memory, int passes) {
        Edge e = new Edge("SORTING: 1 pass, and one more for each time that it must be divided").rules(1, memory);
        spread(e, pages);
        int all = (1 << e.x.count(0)) - 1;
        e.tells("PAGES", e.x.pages(all, 0), pages);
        int bare = e.x.best(all, 1, 0, NONE);
        // a letter that no table has: each plan is sorted in the end
        e.takes(pages + " PAGES by " + memory, e.x.best(all, 1, 0, 7) - bare, 2 * pages * passes);
    }

    /** With so many passes that many PAGES and no more: M in the first, and M less 1 times as many in each other. */
    private static void sortingPasses() {
        for (int memory = 3; memory <= 9; memory++) {
            sortingIs(1, memory, 1);
            int passes = 1;
            for (int most = memory; most < 262144; most *= memory - 1) {
                int below = most;
                while (!spread(null, below)) {
                    below--;
                }
                int above = most + 1;
                while (!spread(null, above)) {
                    above++;
                }
                sortingIs(below, memory, passes);
                // numbers of many steps may have no such factors ahead of the next edge
                if (above <= most * (memory - 1)) {
                    sortingIs(above, memory, passes + 1);
                }
                passes++;
            }
            sortingIs(262144, memory, passes);
        }
    }

    private static void sortedAsTheLeftSideIs() {
        Edge e = new Edge("l is SORTED as the left side is, p by none, s by the LETTER");
        e.column(0, 1, 2).table(3, 1, new int[][] {{1, 2}, {1, 1}}).table(3, 1, new int[][] {{2, 2}, {1, 1}});
        order(e, "(0l1)", 0);
        order(e, "(2l0)", NONE);
        order(e, "(2l1)", NONE);
        order(e, "(1l2)", 0);
        order(e, "(0p1)", NONE);
        order(e, "(2s1)", 0);
        order(e, "((0p1)l2)", NONE);
        order(e, "((2s1)l0)", 0);
        order(e, "(0l(1p2))", 0);
    }

    private static void order(Edge e, String text, int want) {
        e.page(text);
        e.tells("order of " + text, e.x.plan(0, 2), want);
    }

    private static void bestOfOneAndOfSix() {
        Edge e = new Edge("20: THE BEST PLAN of one TABLE is itself").column(0, 1, 2, 3).column(0, 3, 2, 1);
        for (int shape = 0; shape < 2; shape++) {
            for (int by = 0; by < 2; by++) {
                e.takes("its PAGES", e.x.best(1, shape, by, NONE), 3);
                e.takes("SORTED already", e.x.best(1, shape, by, 0), 3);
                e.takes("SORTED then", e.x.best(2, shape, by, 0), 9);
            }
        }
        Edge six = new Edge("20: THE BEST PLAN of six TABLES");
        for (int t = 0; t < 6; t++) {
            six.column(0, Edge.rising(8));
        }
        // all are sorted by the letter that they share: each is read once
        six.takes("in all shapes", six.x.best(63, 0, 0, NONE), 48);
        six.takes("in a row", six.x.best(63, 1, 1, 0), 48);
    }

    private static void bestInARow() {
        Edge e = new Edge("20: SHAPE 1: those whose right sides are TABLES alone").rules(1, 3);
        // two pairs of two pages; a pair has one joined row, any other two tables have 64
        for (int t = 0; t < 4; t++) {
            int other = 1 + t % 2;
            e.table(t < 2 ? 1 : 2, 4, new int[][] {{0}, {other}, {other}, {other}, {other}, {other}, {other}, {other}});
        }
        e.takes("all shapes", e.x.best(15, 0, 0, NONE), 8);
        e.takes("in a row", e.x.best(15, 1, 0, NONE), 22);
        e.takes("three in all shapes", e.x.best(7, 0, 0, NONE), 6);
        e.takes("three in a row", e.x.best(7, 1, 0, NONE), 6);
        text(e, 15, 0, NONE, "((0s1)l(2s3))");
        text(e, 15, 1, NONE, "(((0s1)l2)l3)");
    }

    private static void text(Edge e, int set, int shape, int letter, String want) {
        for (int i = 0; i <= want.length(); i++) {
            int sign = i < want.length() ? want.charAt(i) : NONE;
            e.takes("sign " + i + " of " + want, e.x.sign(set, shape, 0, letter, i), sign);
        }
    }

    private static void bestIsOfLeastText() {
        Edge free = new Edge("20: of like ones the one whose text is least: nothing costs anything").bare(1, 1, 1, 1, 1, 1);
        text(free, 63, 0, NONE, "(((((0l1)l2)l3)l4)l5)");
        text(free, 56, 1, 0, "((3l4)l5)");
        text(free, 34, 0, 7, "(1l5)");
        // (1l0) and (0p1) and (0s1) cost 3, (0l1) costs 4
        Edge parts = new Edge("20: TABLES ahead of WAYS, p ahead of s").column(0, 1, 2).column(0, 1);
        parts.takes("COST", parts.x.best(3, 0, 0, NONE), 3);
        text(parts, 3, 0, NONE, "(0p1)");
        text(parts, 3, 1, NONE, "(0p1)");
        text(parts, 3, 1, 0, "(0s1)");
        Edge sorted = new Edge("20: s alone").column(0, 1, 2).column(0, 2, 2);
        sorted.takes("COST", sorted.x.best(3, 0, 0, NONE), 4);
        text(sorted, 3, 0, NONE, "(0s1)");
        // without a joined row it costs nothing to sort in the end
        Edge wished = new Edge("20: a wish that costs nothing").bare(2, 1);
        text(wished, 3, 0, 0, "(0l1)");
        // one page sorted in the end costs 2, as much as to begin with the other
        Edge like = new Edge("20: SORTED then as dear as SORTED already").column(1, 1, 2).column(0, 1).rules(2, 3);
        // (0l1) costs 3 and 1, its one page 2 more; (1l0) costs 3 and is sorted by 0
        like.takes("COST", like.x.best(3, 0, 0, 0), 3);
        text(like, 3, 0, 0, "(1l0)");
        like.takes("COST by the other", like.x.best(3, 0, 0, 1), 4);
        text(like, 3, 0, 1, "(0l1)");
    }

    /** Of 3 pages and 1 page, loops of the 3 cost 2 more; so does one page that is sorted in the end. */
    private static void bestIsOfLeastTextIfSortedThen() {
        Edge already = new Edge("20: of like ones the least text is SORTED already").column(0, 1, 2, 3).column(1, 1).rules(3, 3);
        already.takes("COST", already.x.best(3, 0, 0, 0), 6);
        text(already, 3, 0, 0, "(0l1)");
        text(already, 3, 0, NONE, "(1l0)");
        Edge then = new Edge("20: of like ones the least text is SORTED then").column(1, 1).column(0, 1, 2, 3).rules(3, 3);
        then.takes("COST", then.x.best(3, 0, 0, 0), 6);
        text(then, 3, 0, 0, "(0l1)");
        text(then, 3, 1, 0, "(0l1)");
    }

    private static void bestCanBeDone() {
        Edge e = new Edge("20: of all PLANS for it that can be done").column(0, Edge.rising(8)).column(1, Edge.rising(8));
        // loops alone: 8 times 7 more; parts would cost 32 more
        e.takes("COST", e.x.best(3, 0, 0, NONE), 16 + 56);
        e.takes("COST in a row, foretold", e.x.best(3, 1, 1, NONE), 16 + 56);
        text(e, 3, 0, NONE, "(0l1)");
        // (0p1) would cost 3 too, and its text is less
        Edge less = new Edge("20: a lesser text that cannot be done").column(0, 1, 2).column(1, 1);
        less.takes("COST", less.x.best(3, 0, 0, NONE), 3);
        text(less, 3, 0, NONE, "(1l0)");
        text(less, 3, 1, NONE, "(1l0)");
    }

    private static void bestWishesALetter() {
        Edge e = new Edge("20: one that no TABLE of the SET has may be wished").column(0, 1, 2).column(1, 1).column(7, 1);
        // two joined rows are one page: 2 more
        for (int letter = 2; letter <= 7; letter++) {
            e.takes("wished " + letter, e.x.best(3, 0, 0, letter), 5);
        }
        // (0l1) costs 4, and (1l0) is sorted by 1
        e.takes("wished 0", e.x.best(3, 0, 0, 0), 4);
        e.takes("wished 1", e.x.best(3, 0, 0, 1), 3);
        e.takes("nothing wished", e.x.best(3, 0, 0, NONE), 3);
        e.takes("one TABLE, a LETTER of another", e.x.best(4, 1, 1, 0), 3);
        e.takes("one TABLE, its LETTER", e.x.best(4, 1, 1, 7), 1);
    }

    private static void bestIsOutside() {
        Edge e = new Edge("20, 21: OUTSIDE: set, shape (0, 1), by, letter").column(0, 1);
        for (int bad : new int[] {LEAST, -1, 2, 3, GREATEST}) {
            e.refuses("best, shape " + bad, e.x.best(1, bad, 0, NONE), OUTSIDE);
            e.refuses("best, by " + bad, e.x.best(1, 0, bad, NONE), OUTSIDE);
            e.refuses("sign, shape " + bad, e.x.sign(1, bad, 0, NONE, 0), OUTSIDE);
            e.refuses("sign, by " + bad, e.x.sign(1, 0, bad, NONE, 0), OUTSIDE);
        }
        for (int bad : new int[] {LEAST, -101, -2, 8, 9, 32, GREATEST}) {
            e.refuses("best, letter " + bad, e.x.best(1, 0, 0, bad), OUTSIDE);
            e.refuses("sign, letter " + bad, e.x.sign(1, 0, 0, bad, 0), OUTSIDE);
            e.refuses("sign, letter " + bad + ", no such sign", e.x.sign(1, 0, 0, bad, -1), OUTSIDE);
        }
        for (int bad : new int[] {LEAST, -1, 0, 2, GREATEST}) {
            e.refuses("best, set " + bad, e.x.best(bad, 0, 0, NONE), OUTSIDE);
            e.refuses("sign, set " + bad, e.x.sign(bad, 0, 0, NONE, 0), OUTSIDE);
        }
        e.tells("none was done", e.x.count(4), 0);
        int done = 0;
        for (int shape = 0; shape < 2; shape++) {
            for (int by = 0; by < 2; by++) {
                for (int letter : new int[] {NONE, 0, 7}) {
                    e.takes("best", e.x.best(1, shape, by, letter), letter == 7 ? 3 : 1);
                    e.takes("sign", e.x.sign(1, shape, by, letter, 0), '0');
                    done += 2;
                }
            }
        }
        e.tells("all were done", e.x.count(4), done);
    }

    private static void sixtyTimesTogether() {
        Edge e = new Edge("20 to 22: STATE: it was done 60 times with sign(), regret()").column(0, 1);
        for (int n = 1; n <= 60; n++) {
            if (n % 3 == 0) {
                e.takes("best " + n, e.x.best(1, 0, 0, NONE), 1);
            } else if (n % 3 == 1) {
                e.takes("sign " + n, e.x.sign(1, 0, 0, NONE, 0), '0');
            } else {
                e.takes("regret " + n, e.x.regret(1, 0), 0);
            }
            e.tells("how often", e.x.count(4), n);
            if (n % 10 == 0) {
                e.refuses("OUTSIDE is not counted", e.x.best(2, 0, 0, NONE), OUTSIDE);
            }
        }
        e.refuses("best 61", e.x.best(1, 0, 0, NONE), STATE);
        e.refuses("sign 61", e.x.sign(1, 0, 0, NONE, 0), STATE);
        e.refuses("sign 61, no such sign", e.x.sign(1, 0, 0, NONE, 1), STATE);
        e.refuses("regret 61", e.x.regret(1, 0), STATE);
        e.refuses("best, OUTSIDE ahead of STATE", e.x.best(0, 0, 0, NONE), OUTSIDE);
        e.refuses("best, letter 8", e.x.best(1, 0, 0, 8), OUTSIDE);
        e.refuses("sign, shape 2", e.x.sign(1, 2, 0, NONE, 0), OUTSIDE);
        e.refuses("sign, by 2", e.x.sign(1, 0, 2, NONE, 0), OUTSIDE);
        e.refuses("regret, set 2", e.x.regret(2, 0), OUTSIDE);
        e.refuses("regret, shape -1", e.x.regret(1, -1), OUTSIDE);
        e.tells("how often then", e.x.count(4), 60);
        e.page("0");
        e.tells("plan() goes on", e.x.plan(0, 1), 1);
        e.takes("so does table()", e.x.table(1, 1), 1);
        e.refuses("it stays so", e.x.best(3, 0, 0, NONE), STATE);
    }

    private static void sixtyTimesEach() {
        for (int kind = 0; kind < 3; kind++) {
            Edge e = new Edge("20 to 22: 60 times one of them alone").column(0, 1);
            for (int n = 1; n <= 60; n++) {
                e.takes(kind + " done " + n, choose(e.x, kind), kind == 0 ? 1 : kind == 1 ? '0' : 0);
            }
            for (int other = 0; other < 3; other++) {
                e.refuses(other + " behind " + kind, choose(e.x, other), STATE);
            }
        }
    }

    private static int choose(JoinWays x, int kind) {
        return kind == 0 ? x.best(1, 0, 0, NONE) : kind == 1 ? x.sign(1, 0, 0, NONE, 0) : x.regret(1, 0);
    }

    /** NONE is no refusal: what answers it was done, and the 61st is refused. */
    private static void sixtyTimesNone() {
        Edge e = new Edge("20 to 22: a sign() that answers NONE was done").column(0, 1);
        for (int n = 1; n <= 60; n++) {
            e.takes("no sign, " + n, e.x.sign(1, n % 2, 0, NONE, n % 2 == 0 ? n : -n), NONE);
            e.tells("how often", e.x.count(4), n);
        }
        e.refuses("no sign, 61", e.x.sign(1, 0, 0, NONE, 1), STATE);
        for (int kind = 0; kind < 3; kind++) {
            e.refuses(kind + " behind them", choose(e.x, kind), STATE);
        }
        e.tells("how often then", e.x.count(4), 60);
    }

    private static void signNone() {
        Edge e = new Edge("21: the i-th sign of its text; NONE").bare(1, 1, 1, 1, 1, 1);
        e.takes("the first", e.x.sign(63, 0, 0, NONE, 0), '(');
        e.takes("the last", e.x.sign(63, 0, 0, NONE, 20), ')');
        for (int i : new int[] {LEAST, -1, 21, 22, 40, GREATEST}) {
            e.takes("sign " + i, e.x.sign(63, 0, 0, NONE, i), NONE);
        }
        e.takes("one TABLE, the first", e.x.sign(32, 1, 1, 7, 0), '5');
        e.takes("one TABLE, behind it", e.x.sign(32, 1, 1, 7, 1), NONE);
        e.takes("one TABLE, ahead of it", e.x.sign(32, 1, 1, 7, -1), NONE);
        // what is not refused was done
        e.tells("how often", e.x.count(4), 11);
    }

    private static void regretOfNothing() {
        Edge e = new Edge("22: REGRET 0").bare(1, 1).column(0, 1, 2).column(1, 5);
        for (int shape = 0; shape < 2; shape++) {
            e.takes("of a TABLE without ROWS", e.x.regret(1, shape), 0);
            e.takes("of two without ROWS", e.x.regret(3, shape), 0);
            e.takes("of one TABLE", e.x.regret(4, shape), 0);
            e.takes("of two", e.x.regret(12, shape), 0);
            e.takes("of all", e.x.regret(15, shape), 0);
        }
        e.tells("each is done once", e.x.count(4), 10);
    }

    private static void regretOfWhatWasForetold() {
        Edge e = new Edge("22: COST by TRUE SIZES of THE BEST PLAN by FORETOLD ones, less that by TRUE ones").rules(1, 3);
        for (int t = 0; t < 3; t++) {
            int other = 1 + t % 2;
            e.table(t < 2 ? 1 : 2, 4, new int[][] {{0}, {other}, {other}, {other}, {other}, {other}, {other}, {other}});
        }
        e.takes("by TRUE SIZES", e.x.best(7, 0, 0, NONE), 6);
        e.takes("by FORETOLD ones", e.x.best(7, 0, 1, NONE), 8);
        e.takes("REGRET", e.x.regret(7, 0), 2);
        e.takes("REGRET in a row", e.x.regret(7, 1), 2);
        Edge dear = new Edge("22: the COST that was foretold is not the true one").rules(1, 3);
        dear.table(3, 1, new int[][] {{1, 1}}).column(0, 1, 1, 1, 0).column(1, 0, 0);
        // ((0l1)l2): 7 to read all, and 2 times (2 foretold PAGES, 3 true ones, less 1); ((0l2)l1) has none, but 2 foretold
        dear.takes("by TRUE SIZES", dear.x.best(7, 0, 0, NONE), 7);
        dear.takes("by FORETOLD ones", dear.x.best(7, 0, 1, NONE), 9);
        dear.takes("REGRET", dear.x.regret(7, 0), 11 - 7);
        dear.takes("REGRET in a row", dear.x.regret(7, 1), 11 - 7);
    }

    private static void regretIsOutside() {
        Edge e = new Edge("22: OUTSIDE: set, shape").column(0, 1);
        for (int bad : new int[] {LEAST, -1, 2, GREATEST}) {
            e.refuses("set " + bad, e.x.regret(bad, 0), OUTSIDE);
            e.refuses("shape " + bad, e.x.regret(1, bad), OUTSIDE);
        }
        e.refuses("set 0", e.x.regret(0, 0), OUTSIDE);
        e.takes("shape 0", e.x.regret(1, 0), 0);
        e.takes("shape 1", e.x.regret(1, 1), 0);
        e.tells("how often", e.x.count(4), 2);
    }
}
