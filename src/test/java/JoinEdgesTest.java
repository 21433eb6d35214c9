/** Sentences on SETS, sizes and JOINED ROWS (promises 11 to 15) that name a boundary case, each by itself. */
public final class JoinEdgesTest {
    private static final int NONE = Edge.NONE, UNKNOWN = Edge.UNKNOWN, OUTSIDE = Edge.OUTSIDE;
    private static final int LEAST = Edge.LEAST, GREATEST = Edge.GREATEST;
    private static final String[] CALLS_ON_SETS = {"size", "pages", "joined", "value", "idle", "best", "sign",
        "regret", "hangs", "goes", "on", "left", "steps", "cover"};

    public static void main(String[] args) {
        setsThereAre();
        sizeFromNoneToMost();
        sizeOfNoFit();
        foretoldWithoutRows();
        foretoldIsRoundedDown();
        foretoldLeavesTheLeastOut();
        foretoldOfLettersOfOneAlone();
        sizeIsByZeroOrOne();
        pagesOfMoreAreRoundedUp();
        pagesOfOneMindNoWide();
        pagesAreByZeroOrOne();
        joinedInOrder();
        joinedNone();
        joinedNeedsATableOfTheSet();
        valueNone();
        valueNeedsALetter();
        idleFromNoneToAll();
        idleNeedsATableOfTheSet();
        Edge.end("all edges of joined rows hold");
    }

    /** One of the calls on a SET, with all else as it may be; TABLES have one LETTER that all share, and no ROWS. */
    private static int ask(JoinWays x, String call, int set, int table) {
        switch (call) {
            case "size": return x.size(set, 0);
            case "pages": return x.pages(set, 1);
            case "joined": return x.joined(set, 0, table);
            case "value": return x.value(set, 0, 0);
            case "idle": return x.idle(set, table);
            case "best": return x.best(set, 0, 0, NONE);
            case "sign": return x.sign(set, 0, 0, NONE, 0);
            case "regret": return x.regret(set, 0);
            case "hangs": return x.hangs(set);
            case "goes": return x.goes(set, 0);
            case "on": return x.on(set, table);
            case "left": return x.left(set, table);
            case "steps": return x.steps(set);
            default: return x.cover(set);
        }
    }

    private static int dueOf(String call, int set, int least) {
        int rest = set & ~(1 << least);
        switch (call) {
            case "joined":
            case "value": return NONE;
            case "sign": return rest == 0 ? '0' + least : '(';
            case "hangs": return 1;
            case "goes": return least;
            case "on": return rest == 0 ? NONE : Integer.numberOfTrailingZeros(rest);
            case "cover": return 1 << least;
            default: return 0;
        }
    }

    private static void setsThereAre() {
        for (int tables = 0; tables <= 6; tables++) {
            for (String call : CALLS_ON_SETS) {
                Edge e = new Edge("a SET: 1 to 2 to the number of TABLES, less 1: else OUTSIDE; " + tables + " TABLES");
                for (int t = 0; t < tables; t++) {
                    e.bare(1);
                }
                int behind = 1 << tables;
                for (int set : new int[] {LEAST, LEAST + 1, -behind, -1, 0, behind, behind + 1, 64, 65, 1 << 30, GREATEST}) {
                    e.refuses(call + " of " + set, ask(e.x, call, set, 0), OUTSIDE);
                }
                for (int set = 1; set < behind; set++) {
                    if (set < 4 || set > behind - 4) {
                        int least = Integer.numberOfTrailingZeros(set);
                        e.takes(call + " of " + set, ask(e.x, call, set, least), dueOf(call, set, least));
                    }
                }
            }
        }
    }

    private static void sizeFromNoneToMost() {
        int want = 1;
        Edge e = new Edge("11: TRUE SIZE: one for each choice, up to 8 of each TABLE");
        for (int t = 0; t < 6; t++) {
            e.column(t, Edge.rising(8));
            want *= 8;
            int all = (1 << t + 1) - 1;
            e.tells("TRUE SIZE of " + all, e.x.size(all, 0), want);
            e.tells("FORETOLD SIZE of " + all, e.x.size(all, 1), want);
        }
        Edge one = new Edge("11: a SET of one TABLE").bare(1).column(0, 3);
        one.tells("no ROW, true", one.x.size(1, 0), 0);
        one.tells("no ROW, foretold", one.x.size(1, 1), 0);
        one.tells("one ROW, true", one.x.size(2, 0), 1);
        one.tells("one ROW, foretold", one.x.size(2, 1), 1);
        Edge alike = new Edge("11: like ROWS are choices of their own").column(0, 5, 5, 5).column(0, 5, 5).column(0, 5);
        alike.tells("three and two", alike.x.size(3, 0), 6);
        alike.tells("of all", alike.x.size(7, 0), 6);
        alike.tells("of all, foretold", alike.x.size(7, 1), 6);
    }

    private static void sizeOfNoFit() {
        Edge e = new Edge("11: each LETTER has one number: no ROW fits").column(0, 0, 1).column(0, 8, 9).column(1, 7);
        e.tells("true", e.x.size(3, 0), 0);
        e.tells("foretold", e.x.size(3, 1), 2);
        e.tells("true, with one apart", e.x.size(7, 0), 0);
        e.tells("one apart alone", e.x.size(5, 0), 2);
        Edge two = new Edge("11: all shared LETTERS must be alike")
                .table(0b10000001, 1, new int[][] {{1, 2}}).table(0b10000001, 1, new int[][] {{1, 3}, {2, 2}, {1, 2}});
        two.tells("true", two.x.size(3, 0), 1);
        two.tells("which", two.x.joined(3, 0, 1), 2);
    }

    private static void foretoldWithoutRows() {
        for (int hollow = 0; hollow < 3; hollow++) {
            Edge e = new Edge("11: FORETOLD SIZE 0, if some TABLE of the SET has no ROW");
            for (int t = 0; t < 3; t++) {
                e.column(0, t == hollow ? new int[0] : new int[] {1, 2});
            }
            e.tells("with the one without ROWS, " + hollow, e.x.size(7, 1), 0);
            e.tells("it alone", e.x.size(1 << hollow, 1), 0);
            e.tells("without it", e.x.size(7 & ~(1 << hollow), 1), 2);
            e.takes("a ROW comes", e.x.row(hollow, 1, 0, 0), 1);
            // 2 times 2 times 1, by 2 times 2
            e.tells("then", e.x.size(7, 1), 1);
        }
        Edge none = new Edge("11: no TABLE has a ROW").bare(1, 1, 2);
        none.tells("shared", none.x.size(3, 1), 0);
        none.tells("not shared", none.x.size(6, 1), 0);
        none.tells("all", none.x.size(7, 1), 0);
    }

    private static void foretoldIsRoundedDown() {
        Edge e = new Edge("11: FORETOLD SIZE, rounded down").column(0, 1, 2, 3).column(0, 1, 1).column(0, 1);
        e.tells("6 by 3", e.x.size(3, 1), 2);
        e.tells("3 by 3", e.x.size(5, 1), 1);
        e.takes("a like ROW", e.x.row(0, 3, 0, 0), 4);
        e.tells("8 by 3", e.x.size(3, 1), 2);
        e.tells("4 by 3", e.x.size(5, 1), 1);
        e.takes("an unlike ROW", e.x.row(1, 2, 0, 0), 3);
        e.tells("12 by 3 times 2", e.x.size(7, 1), 2);
        Edge below = new Edge("11: FORETOLD SIZE below 1")
                .table(3, 1, new int[][] {{0, 0}, {1, 1}}).table(3, 1, new int[][] {{0, 0}, {1, 1}});
        below.tells("4 by 4", below.x.size(3, 1), 1);
        below.table(3, 1, new int[][] {{0, 0}, {1, 1}});
        below.tells("8 by 16", below.x.size(7, 1), 0);
        below.tells("their TRUE SIZE", below.x.size(7, 0), 2);
    }

    private static void foretoldLeavesTheLeastOut() {
        int[][] unlikes = {{2, 3, 4}, {2, 4, 3}, {3, 2, 4}, {3, 4, 2}, {4, 2, 3}, {4, 3, 2}};
        for (int[] three : unlikes) {
            Edge e = new Edge("11: of their UNLIKE but the least one, wherever it stands");
            for (int many : three) {
                int[] eight = new int[8];
                for (int i = 0; i < 8; i++) {
                    eight[i] = i % many;
                }
                e.column(7, eight);
            }
            // 512 by 12, rounded down
            e.tells("of three", e.x.size(7, 1), 42);
        }
        Edge like = new Edge("11: the least one goes once alone").column(0, 1, 2, 1, 2).column(0, 1, 2, 1, 2).column(0, 1, 2, 1, 2);
        like.tells("64 by 4", like.x.size(7, 1), 16);
        like.tells("16 by 2", like.x.size(6, 1), 8);
    }

    private static void foretoldOfLettersOfOneAlone() {
        Edge e = new Edge("11: LETTERS that two or more of them have")
                .table(3, 1, new int[][] {{0, 0}, {1, 1}, {2, 2}}).column(1, 5).column(2, 1, 2);
        e.tells("a LETTER of one TABLE counts nothing", e.x.size(1, 1), 3);
        e.tells("one LETTER is shared: 3 by 3", e.x.size(3, 1), 1);
        e.tells("no LETTER is shared", e.x.size(5, 1), 6);
        e.tells("of all: 6 by 3", e.x.size(7, 1), 2);
    }

    private static void sizeIsByZeroOrOne() {
        Edge e = new Edge("11: OUTSIDE: set, by").column(0, 1, 2).column(0, 2, 3);
        e.tells("size(3, 0)", e.x.size(3, 0), 1);
        e.tells("size(3, 1)", e.x.size(3, 1), 2);
        for (int by : new int[] {LEAST, -1, 2, 3, GREATEST}) {
            e.refuses("size(3, " + by + ")", e.x.size(3, by), OUTSIDE);
            e.refuses("size(0, " + by + ")", e.x.size(0, by), OUTSIDE);
        }
    }

    private static void pagesOfMoreAreRoundedUp() {
        Edge e = new Edge("12: PAGES of more: SIZE by WIDE, rounded up").column(0, 1, 2, 3, 4).column(1, 1, 2).bare(1);
        int[] ofEight = {8, 4, 3, 2, 2, 2, 2, 1};
        for (int wide = 1; wide <= 8; wide++) {
            e.rules(wide, 3);
            e.tells("8 by " + wide, e.x.pages(3, 0), ofEight[wide - 1]);
            e.tells("8 by " + wide + ", foretold", e.x.pages(3, 1), ofEight[wide - 1]);
            e.tells("0 by " + wide, e.x.pages(7, 0), 0);
            e.tells("0 by " + wide + ", foretold", e.x.pages(7, 1), 0);
        }
        e.takes("a ROW goes", e.x.drop(0, 0), 3);
        e.takes("a ROW goes", e.x.drop(1, 0), 1);
        e.takes("a ROW comes", e.x.row(1, 9, 0, 0), 2);
        e.takes("three less one", e.x.drop(0, 0), 2);
        for (int wide = 1; wide <= 8; wide++) {
            e.rules(wide, 3);
            e.tells("4 by " + wide, e.x.pages(3, 0), wide == 1 ? 4 : wide < 4 ? 2 : 1);
        }
    }

    private static void pagesOfOneMindNoWide() {
        Edge e = new Edge("12: PAGES of one TABLE: ROWS by its PER").table(1, 4, new int[][] {{1}, {2}, {3}, {4}, {5}}).bare(2);
        for (int wide = 1; wide <= 8; wide++) {
            e.rules(wide, 3);
            e.tells("pages(1, 0)", e.x.pages(1, 0), 2);
            e.tells("pages(1, 1)", e.x.pages(1, 1), 2);
            e.tells("no ROW", e.x.pages(2, 0), 0);
        }
    }

    private static void pagesAreByZeroOrOne() {
        Edge e = new Edge("12: OUTSIDE: set, by").column(0, 1, 2).column(0, 2, 3).rules(1, 3);
        e.tells("pages(3, 0)", e.x.pages(3, 0), 1);
        e.tells("pages(3, 1)", e.x.pages(3, 1), 2);
        for (int by : new int[] {LEAST, -1, 2, 3, GREATEST}) {
            e.refuses("pages(3, " + by + ")", e.x.pages(3, by), OUTSIDE);
            e.refuses("pages(1, " + by + ")", e.x.pages(1, by), OUTSIDE);
            e.refuses("pages(0, " + by + ")", e.x.pages(0, by), OUTSIDE);
        }
    }

    private static void joinedInOrder() {
        Edge e = new Edge("13: by the ROW chosen of the least TABLE, then of the next one")
                .bare(8).column(0, 1, 1).bare(8).column(1, 6, 6, 6).column(0, 2, 1, 1);
        int i = 0;
        for (int first = 0; first < 2; first++) {
            for (int second = 0; second < 3; second++) {
                for (int third = 1; third < 3; third++) {
                    e.tells("joined(26, " + i + ", 1)", e.x.joined(26, i, 1), first);
                    e.tells("joined(26, " + i + ", 3)", e.x.joined(26, i, 3), second);
                    e.tells("joined(26, " + i + ", 4)", e.x.joined(26, i, 4), third);
                    i++;
                }
            }
        }
        e.tells("how many", e.x.size(26, 0), i);
        e.tells("no more", e.x.joined(26, i, 1), NONE);
    }

    private static void joinedNone() {
        Edge e = new Edge("13: NONE: there is no such JOINED ROW").column(0, 1, 2).column(0, 2, 3).bare(1);
        e.tells("the only one", e.x.joined(3, 0, 0), 1);
        e.tells("the only one, of the other", e.x.joined(3, 0, 1), 0);
        for (int i : new int[] {LEAST, -1, 1, 2, GREATEST}) {
            e.tells("joined(3, " + i + ", 0)", e.x.joined(3, i, 0), NONE);
        }
        for (int i : new int[] {LEAST, -1, 0, 1, GREATEST}) {
            e.tells("of a SET without any, " + i, e.x.joined(7, i, 1), NONE);
            e.tells("of a TABLE without ROWS, " + i, e.x.joined(4, i, 2), NONE);
        }
        e.tells("the last of one TABLE", e.x.joined(1, 1, 0), 1);
        e.tells("behind the last of one TABLE", e.x.joined(1, 2, 0), NONE);
        Edge most = new Edge("13: the last of the most there can be");
        for (int t = 0; t < 6; t++) {
            most.column(t, Edge.rising(8));
        }
        for (int t = 0; t < 6; t++) {
            most.tells("the first, of " + t, most.x.joined(63, 0, t), 0);
            most.tells("the last, of " + t, most.x.joined(63, 262143, t), 7);
            most.tells("behind it, of " + t, most.x.joined(63, 262144, t), NONE);
        }
    }

    private static void joinedNeedsATableOfTheSet() {
        Edge e = new Edge("13: OUTSIDE: set; UNKNOWN: the table is not in it").column(0, 1).column(0, 1).column(0, 1);
        e.tells("joined(5, 0, 0)", e.x.joined(5, 0, 0), 0);
        e.tells("joined(5, 0, 2)", e.x.joined(5, 0, 2), 0);
        for (int t : new int[] {LEAST, -1, 1, 3, 6, 32, 34, GREATEST}) {
            e.refuses("joined(5, 0, " + t + ")", e.x.joined(5, 0, t), UNKNOWN);
            e.refuses("ahead of NONE, " + t, e.x.joined(5, 1, t), UNKNOWN);
            e.refuses("behind OUTSIDE, " + t, e.x.joined(0, 0, t), OUTSIDE);
            e.refuses("behind OUTSIDE of 8, " + t, e.x.joined(8, 0, t), OUTSIDE);
        }
    }

    private static void valueNone() {
        Edge e = new Edge("14: NONE: no such JOINED ROW, or no such LETTER in the SET")
                .table(0b10000001, 1, new int[][] {{1, 9}, {2, 8}}).column(0, 2, 3).column(4, 0);
        e.tells("letter 0", e.x.value(3, 0, 0), 2);
        e.tells("letter 7", e.x.value(3, 0, 7), 8);
        for (int letter = 1; letter < 7; letter++) {
            e.tells("letter " + letter, e.x.value(3, 0, letter), NONE);
        }
        e.tells("letter 4 with the third", e.x.value(7, 0, 4), 0);
        e.tells("letter 7 without the first", e.x.value(6, 0, 7), NONE);
        for (int i : new int[] {LEAST, -1, 1, GREATEST}) {
            e.tells("value(3, " + i + ", 0)", e.x.value(3, i, 0), NONE);
            e.tells("value(3, " + i + ", 3)", e.x.value(3, i, 3), NONE);
        }
        e.tells("the last", e.x.value(5, 1, 7), 8);
        e.tells("behind the last", e.x.value(5, 2, 7), NONE);
        e.takes("a ROW goes", e.x.drop(2, 0), 0);
        e.tells("none is left", e.x.value(5, 0, 0), NONE);
    }

    private static void valueNeedsALetter() {
        Edge e = new Edge("14: OUTSIDE: set; UNKNOWN: letter (0 to 7)").column(0, 5).column(7, 6);
        e.tells("value(3, 0, 0)", e.x.value(3, 0, 0), 5);
        e.tells("value(3, 0, 7)", e.x.value(3, 0, 7), 6);
        for (int letter : new int[] {LEAST, -1, 8, 32, 39, GREATEST}) {
            e.refuses("value(3, 0, " + letter + ")", e.x.value(3, 0, letter), UNKNOWN);
            e.refuses("ahead of NONE, " + letter, e.x.value(3, 1, letter), UNKNOWN);
            e.refuses("behind OUTSIDE, " + letter, e.x.value(0, 0, letter), OUTSIDE);
            e.refuses("behind OUTSIDE of 4, " + letter, e.x.value(4, 0, letter), OUTSIDE);
        }
    }

    private static void idleFromNoneToAll() {
        Edge e = new Edge("15: IDLE: a ROW that is in no JOINED ROW").column(0, Edge.rising(8)).bare(1, 2);
        e.tells("one TABLE: none", e.x.idle(1, 0), 0);
        e.tells("the other has no ROW: all", e.x.idle(3, 0), 8);
        e.tells("nothing shared, and no ROW: all", e.x.idle(5, 0), 8);
        e.tells("no ROW of its own: none", e.x.idle(3, 1), 0);
        for (int n = 0; n < 8; n++) {
            e.takes("a ROW that fits", e.x.row(1, n, 0, 0), n + 1);
            e.tells("IDLE then", e.x.idle(3, 0), 7 - n);
            e.tells("IDLE of the other", e.x.idle(3, 1), 0);
        }
        e.takes("a ROW of the third", e.x.row(2, 4, 0, 0), 1);
        e.tells("nothing shared, and a ROW: none", e.x.idle(5, 0), 0);
        Edge apart = new Edge("15: IDLE, though it fits each TABLE by itself")
                .table(3, 1, new int[][] {{1, 1}}).table(6, 1, new int[][] {{1, 1}}).table(5, 1, new int[][] {{1, 2}, {2, 1}});
        apart.tells("by two", apart.x.idle(3, 0), 0);
        apart.tells("by all", apart.x.idle(7, 0), 1);
        apart.tells("by all, the third", apart.x.idle(7, 2), 2);
    }

    private static void idleNeedsATableOfTheSet() {
        Edge e = new Edge("15: OUTSIDE: set; UNKNOWN: the table is not in it").column(0, 1).column(0, 1).column(0, 2);
        e.tells("idle(5, 2)", e.x.idle(5, 2), 1);
        for (int t : new int[] {LEAST, -1, 1, 3, 6, 32, 34, GREATEST}) {
            e.refuses("idle(5, " + t + ")", e.x.idle(5, t), UNKNOWN);
            e.refuses("behind OUTSIDE, " + t, e.x.idle(0, t), OUTSIDE);
            e.refuses("behind OUTSIDE of 8, " + t, e.x.idle(8, t), OUTSIDE);
        }
    }
}
