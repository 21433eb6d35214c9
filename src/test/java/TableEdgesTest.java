/** Sentences of 'What it is', 'Terms' 1 and promises 1 to 10 that name a boundary case, each by itself. */
public final class TableEdgesTest {
    private static final int NONE = Edge.NONE, UNKNOWN = Edge.UNKNOWN, OUTSIDE = Edge.OUTSIDE, FULL = Edge.FULL;
    private static final int LEAST = Edge.LEAST, GREATEST = Edge.GREATEST;

    public static void main(String[] args) {
        noTables();
        sixTablesAtMost();
        lettersAreOneToThreeOfEight();
        perIsOneToFour();
        tableIsOutsideAheadOfFull();
        eightRowsAtMost();
        rowsBehindMoveUp();
        numbersAreZeroToNine();
        missingLettersAreZero();
        rowRefusalsInOrder();
        seedIsOfThirtyOneFigures();
        seedKeepsItsLowerFigures();
        fillIsOneToEight();
        fillAsLongAsThereIsRoom();
        fillBelowMost();
        fillRefusalsInOrder();
        dropNamesARow();
        sortKeepsLikeRows();
        sortOfFewRows();
        sortNeedsALetterOfTheTable();
        getTellsNone();
        getNamesNothing();
        aboutPagesAreRoundedUp();
        aboutSortedByNone();
        aboutIsZeroToFour();
        unlikeFromNoneToAll();
        unlikeNeedsALetterOfTheTable();
        wideIsOneToEight();
        memoryIsThreeToNine();
        rulesAreTwo();
        Edge.end("all edges of tables hold");
    }

    private static void noTables() {
        Edge e = new Edge("1: no TABLES");
        for (int what = 0; what <= 4; what++) {
            e.tells("count(" + what + ")", e.x.count(what), 0);
        }
        e.refuses("row(0, 0, 0, 0)", e.x.row(0, 0, 0, 0), UNKNOWN);
        e.refuses("fill(0, 0, 1, 1)", e.x.fill(0, 0, 1, 1), UNKNOWN);
        e.refuses("drop(0, 0)", e.x.drop(0, 0), UNKNOWN);
        e.refuses("sort(0, 0)", e.x.sort(0, 0), UNKNOWN);
        e.refuses("get(0, 0, 0)", e.x.get(0, 0, 0), UNKNOWN);
        e.refuses("about(0, 0)", e.x.about(0, 0), UNKNOWN);
        e.refuses("unlike(0, 0)", e.x.unlike(0, 0), UNKNOWN);
        e.tells("blank()", e.x.blank(), 0);
        e.tells("good()", e.x.good(), 0);
        e.refuses("plan(0, 0)", e.x.plan(0, 0), Edge.STATE);
    }

    private static void sixTablesAtMost() {
        Edge e = new Edge("2: 6 TABLES at most, numbered; FULL");
        for (int t = 0; t < 6; t++) {
            e.refuses("about(" + t + ", 0) ahead of it", e.x.about(t, 0), UNKNOWN);
            e.takes("table " + t, e.x.table(1 << t, 1 + t % 4), t);
            e.tells("its letters", e.x.about(t, 0), 1 << t);
            e.tells("how many", e.x.count(0), t + 1);
        }
        e.refuses("a seventh", e.x.table(1, 1), FULL);
        e.refuses("a seventh, once more", e.x.table(224, 4), FULL);
        e.refuses("about(6, 0)", e.x.about(6, 0), UNKNOWN);
        e.tells("how many then", e.x.count(0), 6);
        for (int t = 0; t < 6; t++) {
            e.tells("letters of " + t, e.x.about(t, 0), 1 << t);
            e.tells("rows on a page of " + t, e.x.about(t, 1), 1 + t % 4);
        }
    }

    /** Every number of bits that could be taken, and those around them. */
    private static void lettersAreOneToThreeOfEight() {
        for (int from = -4; from < 260; from += 4) {
            Edge e = new Edge("2: one to three LETTERS of 0 to 7");
            int made = 0;
            for (int letters = from; letters < from + 4; letters++) {
                String bits = Integer.toBinaryString(letters);
                int many = bits.length() - bits.replace("1", "").length();
                String call = "table(" + letters + ", 2)";
                if (letters < 1 || letters > 255 || many > 3) {
                    e.refuses(call, e.x.table(letters, 2), OUTSIDE);
                } else {
                    e.takes(call, e.x.table(letters, 2), made);
                    e.tells("its letters", e.x.about(made, 0), letters);
                    made++;
                }
            }
        }
        Edge e = new Edge("2: LETTERS far off");
        for (int letters : new int[] {LEAST, LEAST + 1, -256, 256, 257, 512, 1 << 16 | 1, 1 << 30, GREATEST}) {
            e.refuses("table(" + letters + ", 1)", e.x.table(letters, 1), OUTSIDE);
        }
    }

    private static void perIsOneToFour() {
        Edge e = new Edge("2: PER is 1 to 4");
        for (int per : new int[] {LEAST, -1, 0, 5, 6, GREATEST}) {
            e.refuses("table(1, " + per + ")", e.x.table(1, per), OUTSIDE);
        }
        for (int per = 1; per <= 4; per++) {
            e.takes("table(1, " + per + ")", e.x.table(1, per), per - 1);
            e.tells("its per", e.x.about(per - 1, 1), per);
        }
    }

    private static void tableIsOutsideAheadOfFull() {
        Edge e = new Edge("2: OUTSIDE ahead of FULL").bare(1, 1, 1, 1, 1, 1);
        e.refuses("table(0, 1)", e.x.table(0, 1), OUTSIDE);
        e.refuses("table(256, 1)", e.x.table(256, 1), OUTSIDE);
        e.refuses("table(15, 1)", e.x.table(15, 1), OUTSIDE);
        e.refuses("table(1, 0)", e.x.table(1, 0), OUTSIDE);
        e.refuses("table(1, 5)", e.x.table(1, 5), OUTSIDE);
        e.refuses("table(1, 1)", e.x.table(1, 1), FULL);
    }

    private static void eightRowsAtMost() {
        Edge e = new Edge("3: 8 ROWS at most each, in the order told; FULL").bare(1, 1);
        for (int n = 1; n <= 8; n++) {
            e.takes("row " + n, e.x.row(0, n, 0, 0), n);
            e.tells("how many", e.x.about(0, 2), n);
        }
        e.refuses("a ninth", e.x.row(0, 0, 0, 0), FULL);
        e.refuses("a ninth, once more", e.x.row(0, 9, 0, 0), FULL);
        for (int i = 0; i < 8; i++) {
            e.tells("row " + i, e.x.get(0, i, 0), i + 1);
        }
        e.refuses("get(0, 8, 0)", e.x.get(0, 8, 0), UNKNOWN);
        e.takes("a row of the other table", e.x.row(1, 5, 0, 0), 1);
        e.tells("rows of all", e.x.count(1), 9);
        e.takes("one goes", e.x.drop(0, 3), 7);
        e.takes("there is room for one", e.x.row(0, 0, 0, 0), 8);
        e.refuses("and for no more", e.x.row(0, 0, 0, 0), FULL);
        e.tells("it came behind the others", e.x.get(0, 7, 0), 0);
    }

    private static void rowsBehindMoveUp() {
        for (int gone = 0; gone < 8; gone++) {
            Edge e = new Edge("5: those behind one that goes move up").table(7, 1);
            for (int n = 0; n < 8; n++) {
                e.takes("row " + n, e.x.row(0, n, n + 1, n + 2), n + 1);
            }
            e.takes("drop(0, " + gone + ")", e.x.drop(0, gone), 7);
            for (int i = 0; i < 7; i++) {
                int was = i < gone ? i : i + 1;
                for (int letter = 0; letter < 3; letter++) {
                    e.tells("get(0, " + i + ", " + letter + ")", e.x.get(0, i, letter), was + letter);
                }
            }
            e.refuses("get(0, 7, 0)", e.x.get(0, 7, 0), UNKNOWN);
        }
    }

    private static void numbersAreZeroToNine() {
        Edge e = new Edge("3: a number 0 to 9 for each LETTER, the least LETTER's first").table(0b10010010, 1);
        e.takes("row(0, 0, 0, 0)", e.x.row(0, 0, 0, 0), 1);
        e.takes("row(0, 9, 9, 9)", e.x.row(0, 9, 9, 9), 2);
        e.takes("row(0, 9, 0, 1)", e.x.row(0, 9, 0, 1), 3);
        e.tells("letter 1", e.x.get(0, 2, 1), 9);
        e.tells("letter 4", e.x.get(0, 2, 4), 0);
        e.tells("letter 7", e.x.get(0, 2, 7), 1);
        for (int bad : new int[] {LEAST, -1, 10, 16, GREATEST}) {
            e.refuses("x is " + bad, e.x.row(0, bad, 0, 0), OUTSIDE);
            e.refuses("y is " + bad, e.x.row(0, 0, bad, 0), OUTSIDE);
            e.refuses("z is " + bad, e.x.row(0, 0, 0, bad), OUTSIDE);
        }
        e.tells("nothing came", e.x.about(0, 2), 3);
    }

    private static void missingLettersAreZero() {
        Edge e = new Edge("3: y, z are 0 where a TABLE has fewer LETTERS").bare(128, 129);
        e.takes("row(0, 9, 0, 0)", e.x.row(0, 9, 0, 0), 1);
        e.takes("row(1, 9, 9, 0)", e.x.row(1, 9, 9, 0), 1);
        for (int bad : new int[] {LEAST, -1, 1, 9, 10, GREATEST}) {
            e.refuses("one letter, y is " + bad, e.x.row(0, 0, bad, 0), OUTSIDE);
            e.refuses("one letter, z is " + bad, e.x.row(0, 0, 0, bad), OUTSIDE);
            e.refuses("two letters, z is " + bad, e.x.row(1, 0, 0, bad), OUTSIDE);
        }
        for (int bad : new int[] {LEAST, -1, 10, GREATEST}) {
            e.refuses("one letter, x is " + bad, e.x.row(0, bad, 0, 0), OUTSIDE);
            e.refuses("two letters, y is " + bad, e.x.row(1, 0, bad, 0), OUTSIDE);
        }
    }

    private static void rowRefusalsInOrder() {
        Edge e = new Edge("3: UNKNOWN, OUTSIDE, FULL, in this order").column(0, Edge.rising(8));
        for (int t : new int[] {LEAST, -1, 1, 6, GREATEST}) {
            e.refuses("row(" + t + ", 0, 0, 0)", e.x.row(t, 0, 0, 0), UNKNOWN);
            e.refuses("row(" + t + ", 10, 1, 1)", e.x.row(t, 10, 1, 1), UNKNOWN);
        }
        e.refuses("row(0, 10, 0, 0)", e.x.row(0, 10, 0, 0), OUTSIDE);
        e.refuses("row(0, 0, 1, 0)", e.x.row(0, 0, 1, 0), OUTSIDE);
        e.refuses("row(0, 0, 0, 1)", e.x.row(0, 0, 0, 1), OUTSIDE);
        e.refuses("row(0, 0, 0, 0)", e.x.row(0, 0, 0, 0), FULL);
    }

    private static void seedIsOfThirtyOneFigures() {
        Edge e = new Edge("4: SEED 0 to 2147483647").bare(1, 1);
        e.refuses("fill(0, -1, 1, 10)", e.x.fill(0, -1, 1, 10), OUTSIDE);
        e.refuses("fill(0, LEAST, 1, 10)", e.x.fill(0, LEAST, 1, 10), OUTSIDE);
        // 12345 by 65536 is 0
        e.takes("fill(0, 0, 1, 10)", e.x.fill(0, 0, 1, 10), 1);
        e.tells("its number", e.x.get(0, 0, 0), 0);
        // 1043980748 by 65536 is 15929
        e.takes("fill(1, GREATEST, 1, 10)", e.x.fill(1, GREATEST, 1, 10), 1);
        e.tells("its number", e.x.get(1, 0, 0), 9);
    }

    /** Numbers by BigInteger, so that nothing can wrap around unseen. */
    private static void seedKeepsItsLowerFigures() {
        for (int seed : new int[] {0, 1, 2, 65535, 65536, 1 << 30, GREATEST - 1, GREATEST}) {
            Edge e = new Edge("4: its lower 31 binary figures alone").bare(0b10000101);
            e.takes("fill(0, " + seed + ", 8, 10)", e.x.fill(0, seed, 8, 10), 8);
            java.math.BigInteger s = java.math.BigInteger.valueOf(seed);
            for (int i = 0; i < 8; i++) {
                for (int letter : new int[] {0, 2, 7}) {
                    s = s.multiply(java.math.BigInteger.valueOf(1103515245)).add(java.math.BigInteger.valueOf(12345));
                    s = s.mod(java.math.BigInteger.TWO.pow(31));
                    int number = s.shiftRight(16).mod(java.math.BigInteger.TEN).intValue();
                    e.tells("get(0, " + i + ", " + letter + ")", e.x.get(0, i, letter), number);
                }
            }
        }
    }

    private static void fillIsOneToEight() {
        Edge e = new Edge("4: n is 1 to 8").bare(1, 1);
        for (int n : new int[] {LEAST, -1, 0, 9, GREATEST}) {
            e.refuses("fill(0, 1, " + n + ", 1)", e.x.fill(0, 1, n, 1), OUTSIDE);
        }
        e.takes("fill(0, 1, 1, 1)", e.x.fill(0, 1, 1, 1), 1);
        e.takes("fill(1, 1, 8, 1)", e.x.fill(1, 1, 8, 1), 8);
        e.tells("rows of the one", e.x.about(0, 2), 1);
        e.tells("rows of the other", e.x.about(1, 2), 8);
    }

    private static void fillAsLongAsThereIsRoom() {
        for (int there = 0; there <= 8; there++) {
            for (int n = 1; n <= 8; n++) {
                Edge e = new Edge("4: as long as there is room").column(3, Edge.alike(there));
                int come = there + n > 8 ? 8 - there : n;
                e.takes(n + " on " + there, e.x.fill(0, 7, n, 10), come);
                e.tells("rows then", e.x.about(0, 2), there + come);
            }
        }
        Edge full = new Edge("4: a full TABLE is not refused").column(0, Edge.rising(8));
        full.tells("fill(0, 0, 8, 10)", full.x.fill(0, 0, 8, 10), 0);
        full.tells("fill(0, GREATEST, 1, 1)", full.x.fill(0, GREATEST, 1, 1), 0);
    }

    private static void fillBelowMost() {
        Edge e = new Edge("4: numbers below most (1 to 10)").bare(7);
        for (int most : new int[] {LEAST, -1, 0, 11, GREATEST}) {
            e.refuses("fill(0, 1, 1, " + most + ")", e.x.fill(0, 1, 1, most), OUTSIDE);
        }
        for (int most = 1; most <= 10; most++) {
            Edge taken = new Edge("4: numbers below " + most).bare(1);
            taken.takes("fill(0, 77, 8, " + most + ")", taken.x.fill(0, 77, 8, most), 8);
            long seed = 77;
            for (int i = 0; i < 8; i++) {
                seed = (1103515245L * seed + 12345L) % 2147483648L;
                taken.tells("row " + i, taken.x.get(0, i, 0), seed / 65536 % most);
            }
        }
    }

    private static void fillRefusalsInOrder() {
        Edge e = new Edge("4: UNKNOWN ahead of OUTSIDE").column(0, Edge.rising(8));
        for (int t : new int[] {LEAST, -1, 1, 6, GREATEST}) {
            e.refuses("fill(" + t + ", 0, 1, 1)", e.x.fill(t, 0, 1, 1), UNKNOWN);
            e.refuses("fill(" + t + ", -1, 0, 0)", e.x.fill(t, -1, 0, 0), UNKNOWN);
        }
        e.refuses("a full one, x", e.x.fill(0, -1, 1, 1), OUTSIDE);
        e.refuses("a full one, n", e.x.fill(0, 0, 9, 1), OUTSIDE);
        e.refuses("a full one, most", e.x.fill(0, 0, 1, 11), OUTSIDE);
    }

    private static void dropNamesARow() {
        Edge e = new Edge("5: UNKNOWN: table, i").column(0, 4, 5).bare(1);
        for (int bad : new int[] {LEAST, -1, 2, 8, GREATEST}) {
            e.refuses("drop(" + bad + ", 0)", e.x.drop(bad, 0), UNKNOWN);
            e.refuses("drop(0, " + bad + ")", e.x.drop(0, bad), UNKNOWN);
            e.refuses("drop(" + bad + ", " + bad + ")", e.x.drop(bad, bad), UNKNOWN);
        }
        e.refuses("of a TABLE without ROWS", e.x.drop(1, 0), UNKNOWN);
        e.takes("the last ROW", e.x.drop(0, 1), 1);
        e.refuses("it has gone", e.x.drop(0, 1), UNKNOWN);
        e.takes("the only ROW", e.x.drop(0, 0), 0);
        e.refuses("none is left", e.x.drop(0, 0), UNKNOWN);
        e.takes("a new ROW", e.x.row(0, 6, 0, 0), 1);
        e.tells("it is the first", e.x.get(0, 0, 0), 6);
    }

    private static void sortKeepsLikeRows() {
        Edge e = new Edge("6: like ones stay as they lie")
                .table(0b110, 1, new int[][] {{1, 7}, {0, 6}, {1, 5}, {0, 4}, {1, 3}, {0, 2}, {1, 1}, {0, 0}});
        e.takes("sort(0, 1)", e.x.sort(0, 1), 8);
        int[] want = {6, 4, 2, 0, 7, 5, 3, 1};
        for (int i = 0; i < 8; i++) {
            e.tells("row " + i, e.x.get(0, i, 2), want[i]);
            e.tells("its letter 1", e.x.get(0, i, 1), i / 4);
        }
        e.tells("nothing lies elsewhere", e.x.sort(0, 1), 0);
        Edge same = new Edge("6: like ones alone").table(3, 1, new int[][] {{5, 2}, {5, 1}, {5, 0}});
        same.tells("sort(0, 0)", same.x.sort(0, 0), 0);
        same.takes("sort(0, 1)", same.x.sort(0, 1), 2);
        same.tells("the middle one stays", same.x.get(0, 1, 1), 1);
    }

    private static void sortOfFewRows() {
        Edge e = new Edge("6: how many lie elsewhere, of no, one, two and eight ROWS")
                .bare(128).column(0, 3).column(7, 9, 0).column(0, Edge.falling(8)).column(0, Edge.rising(8));
        e.tells("no ROW", e.x.sort(0, 7), 0);
        e.tells("one ROW", e.x.sort(1, 0), 0);
        e.takes("two ROWS", e.x.sort(2, 7), 2);
        e.takes("eight that fall", e.x.sort(3, 0), 8);
        e.tells("eight that rise", e.x.sort(4, 0), 0);
        for (int i = 0; i < 8; i++) {
            e.tells("row " + i, e.x.get(3, i, 0), 2 + i);
        }
    }

    private static void sortNeedsALetterOfTheTable() {
        Edge e = new Edge("6: OUTSIDE: it has no such LETTER").table(0b01000010, 1, new int[][] {{2, 1}, {1, 2}});
        for (int letter : new int[] {LEAST, -1, 0, 2, 5, 7, 8, 33, 38, GREATEST}) {
            e.refuses("sort(0, " + letter + ")", e.x.sort(0, letter), OUTSIDE);
        }
        for (int t : new int[] {LEAST, -1, 1, 32, GREATEST}) {
            e.refuses("sort(" + t + ", 1)", e.x.sort(t, 1), UNKNOWN);
            e.refuses("sort(" + t + ", 8)", e.x.sort(t, 8), UNKNOWN);
        }
        e.tells("the greater LETTER", e.x.sort(0, 6), 0);
        e.takes("the lesser LETTER", e.x.sort(0, 1), 2);
    }

    private static void getTellsNone() {
        Edge e = new Edge("7: NONE: the TABLE has no such LETTER").table(0b10000001, 1, new int[][] {{3, 4}});
        e.tells("letter 0", e.x.get(0, 0, 0), 3);
        for (int letter = 1; letter < 7; letter++) {
            e.tells("letter " + letter, e.x.get(0, 0, letter), NONE);
        }
        e.tells("letter 7", e.x.get(0, 0, 7), 4);
    }

    private static void getNamesNothing() {
        Edge e = new Edge("7: UNKNOWN: table, i, letter (0 to 7)").column(0, 3, 4).bare(1);
        for (int t : new int[] {LEAST, -1, 2, 32, GREATEST}) {
            e.refuses("get(" + t + ", 0, 0)", e.x.get(t, 0, 0), UNKNOWN);
        }
        for (int i : new int[] {LEAST, -1, 2, 8, GREATEST}) {
            e.refuses("get(0, " + i + ", 0)", e.x.get(0, i, 0), UNKNOWN);
            e.refuses("ahead of NONE, get(0, " + i + ", 1)", e.x.get(0, i, 1), UNKNOWN);
        }
        for (int letter : new int[] {LEAST, -1, 8, 32, GREATEST}) {
            e.refuses("get(0, 0, " + letter + ")", e.x.get(0, 0, letter), UNKNOWN);
        }
        e.tells("the last ROW", e.x.get(0, 1, 0), 4);
        e.refuses("of a TABLE without ROWS", e.x.get(1, 0, 0), UNKNOWN);
    }

    private static void aboutPagesAreRoundedUp() {
        // of no ROWS to eight, for each PER
        int[][] want = {{0, 1, 2, 3, 4, 5, 6, 7, 8}, {0, 1, 1, 2, 2, 3, 3, 4, 4}, {0, 1, 1, 1, 2, 2, 2, 3, 3},
            {0, 1, 1, 1, 1, 2, 2, 2, 2}};
        for (int per = 1; per <= 4; per++) {
            Edge e = new Edge("8: PAGES of one TABLE: ROWS by its PER, rounded up").table(1, per);
            for (int n = 0; n <= 8; n++) {
                e.tells(n + " ROWS, " + per + " on a PAGE", e.x.about(0, 3), want[per - 1][n]);
                e.tells("as pages()", e.x.pages(1, n % 2), want[per - 1][n]);
                if (n < 8) {
                    e.takes("a ROW", e.x.row(0, 0, 0, 0), n + 1);
                }
            }
        }
    }

    private static void aboutSortedByNone() {
        Edge e = new Edge("8: SORTED by the least of its LETTERS by which its ROWS rise, or NONE").bare(0b10100100);
        e.tells("no ROW", e.x.about(0, 4), 2);
        e.takes("a ROW", e.x.row(0, 5, 5, 5), 1);
        e.tells("one ROW", e.x.about(0, 4), 2);
        e.takes("a like ROW", e.x.row(0, 5, 5, 5), 2);
        e.tells("like ones rise", e.x.about(0, 4), 2);
        e.takes("a ROW", e.x.row(0, 4, 5, 5), 3);
        e.tells("the next LETTER", e.x.about(0, 4), 5);
        e.takes("a ROW", e.x.row(0, 9, 4, 5), 4);
        e.tells("the last LETTER", e.x.about(0, 4), 7);
        e.takes("a ROW", e.x.row(0, 9, 9, 4), 5);
        e.tells("NONE", e.x.about(0, 4), NONE);
        e.takes("sort by the last", e.x.sort(0, 7), 5);
        e.tells("the last LETTER again", e.x.about(0, 4), 7);
    }

    private static void aboutIsZeroToFour() {
        Edge e = new Edge("8: UNKNOWN ahead of OUTSIDE").table(5, 3, new int[][] {{1, 2}, {2, 1}});
        int[] want = {5, 3, 2, 1, 0};
        for (int what = 0; what <= 4; what++) {
            e.tells("about(0, " + what + ")", e.x.about(0, what), want[what]);
        }
        for (int what : new int[] {LEAST, -1, 5, GREATEST}) {
            e.refuses("about(0, " + what + ")", e.x.about(0, what), OUTSIDE);
        }
        for (int t : new int[] {LEAST, -1, 1, 6, GREATEST}) {
            e.refuses("about(" + t + ", 0)", e.x.about(t, 0), UNKNOWN);
            e.refuses("about(" + t + ", 5)", e.x.about(t, 5), UNKNOWN);
        }
    }

    private static void unlikeFromNoneToAll() {
        Edge e = new Edge("9: UNLIKE, from no ROW to eight unlike ones").bare(1);
        e.tells("no ROW", e.x.unlike(0, 0), 0);
        int[] numbers = {9, 0, 9, 0, 5, 4, 5, 1};
        int[] want = {1, 2, 2, 2, 3, 4, 4, 5};
        for (int i = 0; i < 8; i++) {
            e.takes("a ROW", e.x.row(0, numbers[i], 0, 0), i + 1);
            e.tells("UNLIKE of " + (i + 1), e.x.unlike(0, 0), want[i]);
        }
        Edge all = new Edge("9: UNLIKE of all").column(7, Edge.falling(8)).column(7, Edge.alike(8));
        all.tells("all unlike", all.x.unlike(0, 7), 8);
        all.tells("all alike", all.x.unlike(1, 7), 1);
    }

    private static void unlikeNeedsALetterOfTheTable() {
        Edge e = new Edge("9: UNKNOWN: table; OUTSIDE: it has no such LETTER").table(0b01000010, 1, new int[][] {{1, 2}});
        e.tells("unlike(0, 1)", e.x.unlike(0, 1), 1);
        e.tells("unlike(0, 6)", e.x.unlike(0, 6), 1);
        for (int letter : new int[] {LEAST, -1, 0, 2, 5, 7, 8, 33, 38, GREATEST}) {
            e.refuses("unlike(0, " + letter + ")", e.x.unlike(0, letter), OUTSIDE);
        }
        for (int t : new int[] {LEAST, -1, 1, 32, GREATEST}) {
            e.refuses("unlike(" + t + ", 1)", e.x.unlike(t, 1), UNKNOWN);
            e.refuses("unlike(" + t + ", 8)", e.x.unlike(t, 8), UNKNOWN);
        }
    }

    private static void wideIsOneToEight() {
        Edge e = new Edge("10: WIDE (1 to 8; 2 at first)");
        for (int v : new int[] {LEAST, -1, 0, 9, 10, GREATEST}) {
            e.refuses("rule(0, " + v + ")", e.x.rule(0, v), OUTSIDE);
        }
        e.takes("what it was at first", e.x.rule(0, 1), 2);
        for (int v = 2; v <= 8; v++) {
            e.takes("rule(0, " + v + ")", e.x.rule(0, v), v - 1);
        }
        e.refuses("rule(0, 9)", e.x.rule(0, 9), OUTSIDE);
        e.refuses("rule(0, 0)", e.x.rule(0, 0), OUTSIDE);
        e.takes("it was not touched", e.x.rule(0, 1), 8);
        e.tells("MEMORY was not", e.x.rule(1, 3), 3);
    }

    private static void memoryIsThreeToNine() {
        Edge e = new Edge("10: MEMORY (3 to 9; 3 at first)");
        for (int v : new int[] {LEAST, -1, 0, 1, 2, 10, GREATEST}) {
            e.refuses("rule(1, " + v + ")", e.x.rule(1, v), OUTSIDE);
        }
        e.takes("what it was at first", e.x.rule(1, 4), 3);
        for (int v = 5; v <= 9; v++) {
            e.takes("rule(1, " + v + ")", e.x.rule(1, v), v - 1);
        }
        e.refuses("rule(1, 10)", e.x.rule(1, 10), OUTSIDE);
        e.refuses("rule(1, 2)", e.x.rule(1, 2), OUTSIDE);
        e.takes("it was not touched", e.x.rule(1, 3), 9);
        e.tells("WIDE was not", e.x.rule(0, 2), 2);
    }

    private static void rulesAreTwo() {
        Edge e = new Edge("10: UNKNOWN: which, ahead of OUTSIDE");
        for (int which : new int[] {LEAST, -1, 2, 3, GREATEST}) {
            e.refuses("rule(" + which + ", 4)", e.x.rule(which, 4), UNKNOWN);
            e.refuses("rule(" + which + ", 0)", e.x.rule(which, 0), UNKNOWN);
            e.refuses("rule(" + which + ", 99)", e.x.rule(which, 99), UNKNOWN);
        }
    }
}
