import java.math.BigInteger;

/** Sentences of 'Terms' 3 and promises 23 to 30 that name a boundary case, each by itself. */
public final class HangEdgesTest {
    private static final int NONE = Edge.NONE, UNKNOWN = Edge.UNKNOWN, OUTSIDE = Edge.OUTSIDE, STATE = Edge.STATE;
    private static final int LEAST = Edge.LEAST, GREATEST = Edge.GREATEST;

    public static void main(String[] args) {
        theLastTableGoes();
        whatDoesNotHang();
        whatSharesNothingHangs();
        theLeastGoesFirst();
        theLeastIsHungOn();
        goesNone();
        goesNoneWhereNoMoreMayGo();
        onNone();
        onNeedsATableOfTheSet();
        cutWithoutSharedLetters();
        cutWithSharedLetters();
        cutToNothing();
        cutOfOneTable();
        leftOfEightRows();
        leftOfWhatDoesNotHang();
        leftNeedsATableOfTheSet();
        stepsOfWhatDoesNotHang();
        coverOfFewest();
        coverOfLeastBits();
        countIsZeroToFour();
        countFromNoneToMost();
        digestWithoutATable();
        digestWithATable();
        digestWrapsAround();
        theLastCallOfAnObject();
        Edge.end("all edges of what hangs and is told hold");
    }

    private static void theLastTableGoes() {
        Edge e = new Edge("23: a TABLE may go, if it is the last one").bare(7, 7);
        for (int t = 0; t < 2; t++) {
            e.tells("one TABLE hangs", e.x.hangs(1 << t), 1);
            e.tells("it goes", e.x.goes(1 << t, 0), t);
            e.tells("on none", e.x.on(1 << t, t), NONE);
        }
        e.tells("two hang", e.x.hangs(3), 1);
        e.tells("the first of two", e.x.goes(3, 0), 0);
        e.tells("the last of two", e.x.goes(3, 1), 1);
        e.tells("none behind it", e.x.goes(3, 2), NONE);
    }

    private static void whatDoesNotHang() {
        Edge e = new Edge("23: a SET that does not HANG").bare(3, 6, 5, 7);
        e.tells("a ring", e.x.hangs(7), 0);
        for (int set : new int[] {3, 5, 6}) {
            e.tells("two of a ring", e.x.hangs(set), 1);
        }
        e.tells("a ring, and one that has all", e.x.hangs(15), 1);
        Edge six = new Edge("23: a ring of six").bare(3, 6, 12, 24, 48, 33);
        six.tells("all", six.x.hangs(63), 0);
        for (int t = 0; t < 6; t++) {
            six.tells("without " + t, six.x.hangs(63 & ~(1 << t)), 1);
            six.tells("none goes", six.x.goes(63, t), NONE);
        }
    }

    private static void whatSharesNothingHangs() {
        Edge e = new Edge("23: all LETTERS that it shares: none").bare(1, 2, 4, 8, 16, 32);
        e.tells("it hangs", e.x.hangs(63), 1);
        for (int t = 0; t < 6; t++) {
            e.tells("goes " + t, e.x.goes(63, t), t);
            // what is left then are those behind it
            e.tells("on " + t, e.x.on(63, t), t < 5 ? t + 1 : NONE);
        }
    }

    private static void theLeastGoesFirst() {
        Edge e = new Edge("24: of several that may the least goes first").bare(0b011, 0b110, 0b010);
        // 1 and 2 may go too
        e.tells("first", e.x.goes(7, 0), 0);
        e.tells("then", e.x.goes(7, 1), 1);
        e.tells("last", e.x.goes(7, 2), 2);
        Edge wait = new Edge("24: the least that may: one that may not yet waits").bare(0b111, 0b001, 0b110, 0b010);
        // 0 shares 0 with 1, and 1 and 2 with 2: no other has all
        wait.tells("first", wait.x.goes(15, 0), 1);
        wait.tells("then the one that waited", wait.x.goes(15, 1), 0);
        wait.tells("then", wait.x.goes(15, 2), 2);
        wait.tells("last", wait.x.goes(15, 3), 3);
        wait.tells("what it hung on", wait.x.on(15, 0), 2);
    }

    private static void theLeastIsHungOn() {
        Edge e = new Edge("25: what it HANGS ON: the least such TABLE").bare(1, 2, 1, 1);
        e.tells("not the one without the LETTER", e.x.on(15, 0), 2);
        e.tells("with none shared the least there is", e.x.on(15, 1), 2);
        e.tells("then", e.x.on(15, 2), 3);
        e.tells("not one that has gone", e.x.on(11, 1), 3);
        e.tells("the last", e.x.on(15, 3), NONE);
        // 0 needs 0, 1 and 2, until 1 has gone
        Edge lesser = new Edge("25: a TABLE may hang on a lesser one").bare(0b0111, 0b0011, 0b0110, 0b1100);
        lesser.tells("1 on 0", lesser.x.on(15, 1), 0);
        lesser.tells("0 on 2", lesser.x.on(15, 0), 2);
        lesser.tells("2 on 3", lesser.x.on(15, 2), 3);
        lesser.tells("3, the last", lesser.x.on(15, 3), NONE);
    }

    private static void goesNone() {
        Edge e = new Edge("24: NONE: there are not so many").bare(1, 1, 1, 1, 1, 1);
        for (int set : new int[] {1, 5, 21, 63}) {
            int many = Integer.bitCount(set);
            e.tells("the last of " + set, e.x.goes(set, many - 1), 31 - Integer.numberOfLeadingZeros(set));
            for (int i : new int[] {LEAST, -1, many, many + 1, 6, GREATEST}) {
                e.tells("goes(" + set + ", " + i + ")", e.x.goes(set, i), NONE);
            }
        }
    }

    private static void goesNoneWhereNoMoreMayGo() {
        Edge e = new Edge("24: NONE: no more may go").bare(3, 6, 5, 128, 1);
        // 3 has nothing to do with the ring, 4 hangs on 0
        e.tells("first", e.x.goes(31, 0), 3);
        e.tells("then", e.x.goes(31, 1), 4);
        for (int i = 2; i < 6; i++) {
            e.tells("then none, " + i, e.x.goes(31, i), NONE);
        }
        e.tells("it does not hang", e.x.hangs(31), 0);
        e.tells("a ring alone", e.x.goes(7, 0), NONE);
    }

    private static void onNone() {
        Edge e = new Edge("25: NONE: it is the last one, or never goes").bare(3, 6, 5, 128, 1);
        for (int t = 0; t < 3; t++) {
            e.tells("never goes, " + t, e.x.on(31, t), NONE);
            e.tells("alone, " + t, e.x.on(1 << t, t), NONE);
        }
        e.tells("goes, and shares nothing", e.x.on(31, 3), 0);
        e.tells("goes", e.x.on(31, 4), 0);
        e.tells("the last one of two", e.x.on(3, 1), NONE);
        e.tells("the first one of two", e.x.on(3, 0), 1);
    }

    private static void onNeedsATableOfTheSet() {
        Edge e = new Edge("25: OUTSIDE: set; UNKNOWN: the table is not in it").bare(1, 1, 1);
        e.tells("on(5, 0)", e.x.on(5, 0), 2);
        for (int t : new int[] {LEAST, -1, 1, 3, 6, 32, 34, GREATEST}) {
            e.refuses("on(5, " + t + ")", e.x.on(5, t), UNKNOWN);
            e.refuses("behind OUTSIDE, " + t, e.x.on(0, t), OUTSIDE);
            e.refuses("behind OUTSIDE of 8, " + t, e.x.on(8, t), OUTSIDE);
        }
    }

    private static void cutWithoutSharedLetters() {
        Edge e = new Edge("26: without shared LETTERS each fits, if there is one").column(0, 1, 2, 3).bare(2, 4);
        e.tells("there is none: all go", e.x.left(3, 0), 0);
        e.tells("STEPS", e.x.steps(3), 3);
        e.takes("there is one", e.x.row(1, 9, 0, 0), 1);
        e.tells("all stay", e.x.left(3, 0), 7);
        e.tells("it stays too", e.x.left(3, 1), 1);
        e.tells("STEPS then", e.x.steps(3), 0);
        e.tells("a third without ROWS: all go", e.x.left(7, 0), 0);
        e.tells("the second too", e.x.left(7, 1), 0);
        e.tells("the third", e.x.left(7, 2), 0);
        e.tells("STEPS of three", e.x.steps(7), 4);
    }

    private static void cutWithSharedLetters() {
        Edge e = new Edge("26: ROWS go that fit no ROW left of the other one")
                .table(3, 1, new int[][] {{1, 1}, {2, 2}, {3, 3}}).table(6, 1, new int[][] {{1, 5}, {2, 6}, {4, 5}})
                .table(12, 1, new int[][] {{5, 0}, {6, 0}, {7, 0}, {5, 9}});
        e.tells("left of 0", e.x.left(7, 0), 0b011);
        e.tells("left of 1", e.x.left(7, 1), 0b011);
        e.tells("left of 2", e.x.left(7, 2), 0b1011);
        e.tells("STEPS", e.x.steps(7), 3);
        e.tells("ROWS stay where they are", e.x.count(1), 10);
        // with the row of 5 gone from the middle one, those of the ends that need it go too
        e.takes("one of the middle goes", e.x.drop(1, 0), 2);
        e.tells("left of 0", e.x.left(7, 0), 0b010);
        e.tells("left of 1", e.x.left(7, 1), 0b01);
        e.tells("left of 2", e.x.left(7, 2), 0b0010);
        e.tells("STEPS then", e.x.steps(7), 2 + 1 + 3);
        for (int t = 0; t < 3; t++) {
            e.tells("what is left is not IDLE", e.x.idle(7, t), e.x.about(t, 2) - 1);
        }
    }

    private static void cutToNothing() {
        Edge e = new Edge("26: nothing fits").column(0, Edge.rising(8)).column(0, 8, 9).column(7, 1);
        e.tells("left of 0", e.x.left(7, 0), 0);
        e.tells("left of 1", e.x.left(7, 1), 0);
        e.tells("left of 2", e.x.left(7, 2), 0);
        e.tells("STEPS: all", e.x.steps(7), 11);
        Edge none = new Edge("27: STEPS without ROWS").bare(1, 1, 2);
        none.tells("STEPS", none.x.steps(7), 0);
        none.tells("left", none.x.left(7, 1), 0);
    }

    private static void cutOfOneTable() {
        Edge e = new Edge("26: a SET of one TABLE is not cut").column(0, 1, 2, 3).bare(1);
        e.tells("all are left", e.x.left(1, 0), 7);
        e.tells("STEPS", e.x.steps(1), 0);
        e.tells("without ROWS", e.x.left(2, 1), 0);
        e.tells("STEPS without ROWS", e.x.steps(2), 0);
    }

    private static void leftOfEightRows() {
        Edge e = new Edge("26: as bits of its ROWS, up to eight").column(0, Edge.rising(8)).column(0, Edge.rising(8));
        e.tells("all eight", e.x.left(3, 0), 255);
        e.tells("STEPS", e.x.steps(3), 0);
        e.takes("the first goes", e.x.drop(1, 0), 7);
        e.tells("all but the first", e.x.left(3, 0), 254);
        e.takes("the last goes", e.x.drop(1, 6), 6);
        e.tells("all but the last too", e.x.left(3, 0), 126);
        e.tells("of the other", e.x.left(3, 1), 63);
        e.tells("STEPS then", e.x.steps(3), 2);
    }

    private static void leftOfWhatDoesNotHang() {
        Edge e = new Edge("26: STATE: the SET does not HANG").bare(3, 6, 5, 7).column(7, 1);
        for (int t = 0; t < 3; t++) {
            e.refuses("left(7, " + t + ")", e.x.left(7, t), STATE);
        }
        e.refuses("of one that goes", e.x.left(23, 4), STATE);
        e.tells("with one that has all", e.x.left(15, 0), 0);
        e.refuses("OUTSIDE ahead of it", e.x.left(32, 0), OUTSIDE);
        e.refuses("UNKNOWN ahead of it", e.x.left(7, 3), UNKNOWN);
    }

    private static void leftNeedsATableOfTheSet() {
        Edge e = new Edge("26: OUTSIDE: set; UNKNOWN: the table is not in it").column(0, 1).column(0, 1).column(0, 1);
        e.tells("left(5, 2)", e.x.left(5, 2), 1);
        for (int t : new int[] {LEAST, -1, 1, 3, 6, 32, 34, GREATEST}) {
            e.refuses("left(5, " + t + ")", e.x.left(5, t), UNKNOWN);
            e.refuses("behind OUTSIDE, " + t, e.x.left(0, t), OUTSIDE);
            e.refuses("behind OUTSIDE of 8, " + t, e.x.left(8, t), OUTSIDE);
        }
    }

    private static void stepsOfWhatDoesNotHang() {
        Edge e = new Edge("27: OUTSIDE: set; STATE: it does not HANG").table(3, 1, new int[][] {{1, 1}}).bare(6, 5, 128);
        e.refuses("a ring", e.x.steps(7), STATE);
        e.refuses("a ring and one apart", e.x.steps(15), STATE);
        e.tells("two of a ring", e.x.steps(3), 1);
        for (int set : new int[] {LEAST, -1, 0, 16, GREATEST}) {
            e.refuses("steps(" + set + ")", e.x.steps(set), OUTSIDE);
        }
    }

    private static void coverOfFewest() {
        Edge e = new Edge("28: the one of fewest TABLES").bare(1, 2, 4, 7, 128);
        e.tells("one", e.x.cover(1), 1);
        e.tells("all must be", e.x.cover(7), 7);
        e.tells("one has all of the others", e.x.cover(15), 8);
        e.tells("and one apart", e.x.cover(31), 24);
        e.tells("the last alone", e.x.cover(16), 16);
        Edge six = new Edge("28: six that must all be").bare(1, 2, 4, 8, 16, 32);
        six.tells("all", six.x.cover(63), 63);
    }

    private static void coverOfLeastBits() {
        Edge e = new Edge("28: of like ones of least bits").bare(3, 12, 5, 10, 6, 9);
        e.tells("of three pairs the first", e.x.cover(63), 0b000011);
        e.tells("of two pairs the first", e.x.cover(0b111100), 0b001100);
        e.tells("the last pair", e.x.cover(0b110000), 0b110000);
        e.tells("two of a ring of three", e.x.cover(0b010101), 0b000101);
        Edge same = new Edge("28: like TABLES").bare(7, 7, 7);
        same.tells("the first of three", same.x.cover(7), 1);
        same.tells("the first of two", same.x.cover(6), 2);
        // 0 and 3 or 1 and 2: 6 is less than 9
        Edge bits = new Edge("28: bits, not the first TABLE").bare(0b0011, 0b0101, 0b1010, 0b1100);
        bits.tells("the middle ones", bits.x.cover(15), 0b0110);
    }

    private static void countIsZeroToFour() {
        Edge e = new Edge("29: OUTSIDE").table(7, 1, new int[][] {{1, 2, 3}}).page("(0");
        e.takes("best", e.x.best(1, 0, 0, NONE), 1);
        int[] want = {1, 1, 2, 3, 1};
        for (int what = 0; what <= 4; what++) {
            e.tells("count(" + what + ")", e.x.count(what), want[what]);
        }
        for (int what : new int[] {LEAST, -1, 5, GREATEST}) {
            e.refuses("count(" + what + ")", e.x.count(what), OUTSIDE);
        }
    }

    private static void countFromNoneToMost() {
        Edge e = new Edge("29: from none to the most there can be");
        for (int what = 0; what <= 4; what++) {
            e.tells("count(" + what + ") at first", e.x.count(what), 0);
        }
        int[] letters = {7, 7, 56, 129, 192, 1};
        int[] unlike = {3, 3, 6, 7, 8, 8};
        for (int t = 0; t < 6; t++) {
            e.takes("a TABLE", e.x.table(letters[t], 1), t);
            e.takes("eight ROWS", e.x.fill(t, t, 8, 10), 8);
            e.tells("TABLES", e.x.count(0), t + 1);
            e.tells("ROWS of all", e.x.count(1), 8 * t + 8);
            e.tells("unlike LETTERS", e.x.count(3), unlike[t]);
        }
        e.page("abcdefghijklmnopqrstuvwxyzABCDEFGHIJKLMN");
        e.tells("letters of THE PAGE", e.x.count(2), 40);
        e.takes("a ROW goes", e.x.drop(5, 7), 7);
        e.tells("ROWS then", e.x.count(1), 47);
    }

    /** 31 times h and each number, in numbers without an end, of which the lower 64 figures are told. */
    private static long hash(long... numbers) {
        BigInteger h = BigInteger.valueOf(269);
        for (long number : numbers) {
            h = h.multiply(BigInteger.valueOf(31)).add(BigInteger.valueOf(number));
        }
        return h.longValue();
    }

    private static void digestWithoutATable() {
        Edge e = new Edge("30: if there is a TABLE: without one");
        e.tells("new", e.x.digest(), hash(2, 3, 0, 0, 0, 0, 0));
        e.page("A");
        e.tells("one letter", e.x.digest(), hash(2, 3, 'A', 0, 0, 1, 0, 0));
        e.rules(8, 9);
        e.tells("rules", e.x.digest(), hash(8, 9, 'A', 0, 0, 1, 0, 0));
        e.takes("blank", e.x.blank(), 1);
        e.tells("an empty PAGE", e.x.digest(), hash(8, 9, 0, 0, 0, 0, 0));
    }

    private static void digestWithATable() {
        Edge e = new Edge("30: of each TABLE, its ROWS by LETTERS, all as one SET").bare(0b10000010);
        e.tells("no ROW", e.x.digest(), hash(130, 1, 0, 0, 1, 2, 3, 0, 0, 1, 1, 1, 0, 0, 2, 0));
        e.takes("a ROW", e.x.row(0, 9, 0, 0), 1);
        e.tells("one ROW", e.x.digest(), hash(130, 1, 1, 1, 1, 9, 0, 2, 3, 1, 1, 1, 1, 1, 1, 0, 2, 0));
        e.table(2, 4, new int[][] {{9}, {8}, {9}});
        e.tells("SORTED by none is -1", e.x.digest(), hash(130, 1, 1, 1, 1, 9, 0, 2, 4, 3, 1, -1, 9, 8, 9,
                2, 3, 2, 1, 1, 1, 2, 4, 0, 2, 0));
        e.takes("best", e.x.best(3, 0, 0, NONE), 2);
        e.tells("how often", e.x.digest(), hash(130, 1, 1, 1, 1, 9, 0, 2, 4, 3, 1, -1, 9, 8, 9,
                2, 3, 2, 1, 1, 1, 2, 4, 0, 2, 1));
    }

    private static void digestWrapsAround() {
        Edge e = new Edge("30: as longs, wrapping: the most there can be");
        int[] letters = {7, 14, 28, 56, 112, 224};
        long[] numbers = new long[6 * 5 + 6 * 24 + 6 + 40 + 5];
        int n = 0;
        for (int t = 0; t < 6; t++) {
            e.table(letters[t], 4);
            e.takes("eight ROWS", e.x.fill(t, 1000 + t, 8, 2), 8);
            for (int what = 0; what < 5; what++) {
                numbers[n++] = e.x.about(t, what);
            }
            for (int i = 0; i < 8; i++) {
                for (int k = 0; k < 3; k++) {
                    numbers[n++] = e.x.get(t, i, t + k);
                }
            }
        }
        String text = "abcdefghijklmnopqrstuvwxyzABCDEFGHIJKLM~";
        e.page(text);
        long[] sums = {2, 3, e.x.size(63, 0), e.x.size(63, 1), e.x.hangs(63), e.x.cover(63)};
        for (long sum : sums) {
            numbers[n++] = sum;
        }
        for (int i = 0; i < 40; i++) {
            numbers[n++] = text.charAt(i);
        }
        for (int what = 0; what < 5; what++) {
            numbers[n++] = e.x.count(what);
        }
        e.tells("digest()", e.x.digest(), hash(numbers));
    }

    private static void theLastCallOfAnObject() {
        Edge e = new Edge("an object is used for at most 512 calls").table(3, 2, new int[][] {{1, 2}, {2, 1}});
        JoinWays x = new JoinWays();
        x.table(3, 2);
        x.row(0, 1, 2, 0);
        x.row(0, 2, 1, 0);
        for (int call = 4; call < 512; call += 4) {
            x.letters(Edge.word("(0l1)"));
            x.fill(0, call, 0, 1);
            x.left(1, 0);
            x.blank();
        }
        e.tells("the 512th", x.digest(), e.x.digest());
    }
}
