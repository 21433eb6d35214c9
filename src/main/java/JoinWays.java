import java.util.Arrays;

/**
 * Tables with shared letters, their joined rows, plans to join them with their costs in pages, the
 * cheapest of these plans, and sets of tables that hang together as a tree.
 */
public final class JoinWays {
    public static final int NONE = -1, UNKNOWN = -101, OUTSIDE = -102, STATE = -103, FULL = -104;

    private static final int MOST_TABLES = 6;
    private static final int MOST_ROWS = 8;
    private static final int MOST_LETTERS = 8;
    private static final int MOST_LETTERS_OF_TABLE = 3;
    private static final int MOST_NUMBER = 9;
    private static final int MOST_PER = 4;
    private static final int MOST_SIGNS = 40;
    private static final int MOST_CODE = 126;
    private static final int MOST_CHOICES = 60;
    private static final int SETS = 64;
    private static final int BY_TRUE = 0;
    private static final int BY_FORETOLD = 1;
    private static final int ALL_SHAPES = 0;
    private static final int IN_A_ROW = 1;
    private static final int CANNOT_BE_DONE = -2;
    private static final int NOT_REFUSED = 0;

    private final Shelf shelf;
    private final Matches matches;
    private final Sheet sheet;
    private final Judge judge;
    private final Chooser chooser;
    private final Hanging hanging;
    private int choices;

    public JoinWays() {
        shelf = new Shelf();
        matches = new Matches(shelf);
        sheet = new Sheet();
        judge = new Judge(shelf, matches);
        chooser = new Chooser(shelf, matches);
        hanging = new Hanging(shelf);
        choices = 0;
    }

    public int table(int letters, int per) {
        boolean lettersFit = letters >= 1 && letters < 1 << MOST_LETTERS
                && Integer.bitCount(letters) <= MOST_LETTERS_OF_TABLE;
        if (!lettersFit || per < 1 || per > MOST_PER) {
            return OUTSIDE;
        }
        return shelf.addTable(letters, per);
    }

    public int row(int table, int x, int y, int z) {
        if (!shelf.holds(table)) {
            return UNKNOWN;
        }
        int letters = shelf.lettersOf(table);
        int numbers = Integer.bitCount(letters);
        if (!mayStand(x, true) || !mayStand(y, numbers > 1) || !mayStand(z, numbers > 2)) {
            return OUTSIDE;
        }
        if (shelf.rowsOf(table) >= MOST_ROWS) {
            return FULL;
        }
        return shelf.addRow(table, Pack.codeOf(letters, x, y, z));
    }

    public int fill(int table, int x, int n, int most) {
        if (!shelf.holds(table)) {
            return UNKNOWN;
        }
        if (x < 0 || n < 1 || n > MOST_ROWS || most < 1 || most > MOST_NUMBER + 1) {
            return OUTSIDE;
        }
        return shelf.addSeeded(table, x, n, most);
    }

    public int drop(int table, int i) {
        if (!shelf.holdsRow(table, i)) {
            return UNKNOWN;
        }
        return shelf.dropRow(table, i);
    }

    public int sort(int table, int letter) {
        if (!shelf.holds(table)) {
            return UNKNOWN;
        }
        if (!shelf.hasLetter(table, letter)) {
            return OUTSIDE;
        }
        return shelf.sortRows(table, letter);
    }

    public int get(int table, int i, int letter) {
        if (!shelf.holdsRow(table, i) || !isLetter(letter)) {
            return UNKNOWN;
        }
        if (!shelf.hasLetter(table, letter)) {
            return NONE;
        }
        return Pack.numberIn(shelf.codeAt(table, i), letter);
    }

    public int about(int table, int what) {
        if (!shelf.holds(table)) {
            return UNKNOWN;
        }
        switch (what) {
            case 0:
                return shelf.lettersOf(table);
            case 1:
                return shelf.perOf(table);
            case 2:
                return shelf.rowsOf(table);
            case 3:
                return shelf.pagesOfTable(table);
            case 4:
                return shelf.sortedLetter(table);
            default:
                return OUTSIDE;
        }
    }

    public int unlike(int table, int letter) {
        if (!shelf.holds(table)) {
            return UNKNOWN;
        }
        if (!shelf.hasLetter(table, letter)) {
            return OUTSIDE;
        }
        return shelf.unlikeNumbers(table, letter);
    }

    public int rule(int which, int v) {
        switch (which) {
            case 0:
                return v < 1 || v > 8 ? OUTSIDE : shelf.putWide(v);
            case 1:
                return v < 3 || v > 9 ? OUTSIDE : shelf.putMemory(v);
            default:
                return UNKNOWN;
        }
    }

    public int size(int set, int by) {
        if (!shelf.isSet(set) || !isBy(by)) {
            return OUTSIDE;
        }
        return matches.sizeOf(set, by);
    }

    public int pages(int set, int by) {
        if (!shelf.isSet(set) || !isBy(by)) {
            return OUTSIDE;
        }
        return matches.pagesOf(set, by);
    }

    public int joined(int set, int i, int table) {
        int refusal = refusalOfMember(set, table);
        if (refusal != NOT_REFUSED) {
            return refusal;
        }
        return matches.find(set, i) ? matches.rowFound(table) : NONE;
    }

    public int value(int set, int i, int letter) {
        if (!shelf.isSet(set)) {
            return OUTSIDE;
        }
        if (!isLetter(letter)) {
            return UNKNOWN;
        }
        boolean told = (shelf.lettersOfSet(set) >> letter & 1) == 1;
        return told && matches.find(set, i) ? matches.numberFound(set, letter) : NONE;
    }

    public int idle(int set, int table) {
        int refusal = refusalOfMember(set, table);
        return refusal != NOT_REFUSED ? refusal : matches.idleRows(set, table);
    }

    public int letters(long w) {
        int come = 0;
        for (int k = 0; k < 8; k++) {
            int code = (int) (w >>> 8 * k & 255);
            boolean behindEnd = code != 0 && come < k;
            if (code > MOST_CODE || behindEnd) {
                return OUTSIDE;
            }
            if (code != 0) {
                come++;
            }
        }
        return sheet.append(w, come);
    }

    public int blank() {
        return sheet.wipe();
    }

    public int good() {
        return sheet.readable(shelf.tablesMade());
    }

    public int plan(int by, int what) {
        if (!isBy(by) || what < 0 || what > 3) {
            return OUTSIDE;
        }
        if (!sheet.isPlan(shelf.tablesMade())) {
            return STATE;
        }
        judge.read(sheet.signs(), sheet.length(), by);
        switch (what) {
            case 0:
                return judge.tablesRead();
            case 1:
                return judge.canBeDone() ? judge.costRead() : CANNOT_BE_DONE;
            case 2:
                return judge.canBeDone() ? judge.letterRead() : CANNOT_BE_DONE;
            default:
                return judge.stepsRead();
        }
    }

    public int best(int set, int shape, int by, int letter) {
        int refusal = refusalOfChoice(set, shape, by, letter);
        if (refusal != NOT_REFUSED) {
            return refusal;
        }
        choices++;
        chooser.choose(set, shape, by);
        return chooser.costFor(set, letter);
    }

    public int sign(int set, int shape, int by, int letter, int i) {
        int refusal = refusalOfChoice(set, shape, by, letter);
        if (refusal != NOT_REFUSED) {
            return refusal;
        }
        choices++;
        chooser.choose(set, shape, by);
        chooser.write(set, letter);
        return chooser.signAt(i);
    }

    public int regret(int set, int shape) {
        int refusal = refusalOfChoice(set, shape, BY_TRUE, NONE);
        if (refusal != NOT_REFUSED) {
            return refusal;
        }
        choices++;
        chooser.choose(set, shape, BY_FORETOLD);
        int length = chooser.write(set, NONE);
        judge.read(chooser.signs(), length, BY_TRUE);
        chooser.choose(set, shape, BY_TRUE);
        return judge.costRead() - chooser.costFor(set, NONE);
    }

    public int hangs(int set) {
        if (!shelf.isSet(set)) {
            return OUTSIDE;
        }
        return hanging.takeAway(set) ? 1 : 0;
    }

    public int goes(int set, int i) {
        if (!shelf.isSet(set)) {
            return OUTSIDE;
        }
        hanging.takeAway(set);
        return hanging.goneAt(i);
    }

    public int on(int set, int table) {
        int refusal = refusalOfMember(set, table);
        if (refusal != NOT_REFUSED) {
            return refusal;
        }
        hanging.takeAway(set);
        return hanging.hookOf(table);
    }

    public int left(int set, int table) {
        int refusal = refusalOfMember(set, table);
        if (refusal != NOT_REFUSED) {
            return refusal;
        }
        return hanging.fullCut(set) ? hanging.rowsLeft(table) : STATE;
    }

    public int steps(int set) {
        if (!shelf.isSet(set)) {
            return OUTSIDE;
        }
        return hanging.fullCut(set) ? hanging.rowsCut() : STATE;
    }

    public int cover(int set) {
        return shelf.isSet(set) ? shelf.fewestThatCover(set) : OUTSIDE;
    }

    public int count(int what) {
        switch (what) {
            case 0:
                return shelf.tablesMade();
            case 1:
                return shelf.rowsOfAll();
            case 2:
                return sheet.length();
            case 3:
                return Integer.bitCount(shelf.lettersOfSet(shelf.allTables()));
            case 4:
                return choices;
            default:
                return OUTSIDE;
        }
    }

    public long digest() {
        long h = 269;
        for (int t = 0; t < shelf.tablesMade(); t++) {
            h = digestOfTable(h, t);
        }
        h = 31 * h + shelf.wide();
        h = 31 * h + shelf.memory();
        int all = shelf.allTables();
        if (all != 0) {
            h = 31 * h + size(all, BY_TRUE);
            h = 31 * h + size(all, BY_FORETOLD);
            h = 31 * h + hangs(all);
            h = 31 * h + cover(all);
        }
        for (int i = 0; i < sheet.length(); i++) {
            h = 31 * h + sheet.signAt(i);
        }
        for (int what = 0; what <= 4; what++) {
            h = 31 * h + count(what);
        }
        return h;
    }

    private long digestOfTable(long before, int t) {
        long h = before;
        for (int what = 0; what <= 4; what++) {
            h = 31 * h + about(t, what);
        }
        for (int i = 0; i < shelf.rowsOf(t); i++) {
            for (int letter = 0; letter < MOST_LETTERS; letter++) {
                if (shelf.hasLetter(t, letter)) {
                    h = 31 * h + Pack.numberIn(shelf.codeAt(t, i), letter);
                }
            }
        }
        return h;
    }

    private static boolean mayStand(int number, boolean hasLetter) {
        return number >= 0 && number <= (hasLetter ? MOST_NUMBER : 0);
    }

    private static boolean isLetter(int letter) {
        return letter >= 0 && letter < MOST_LETTERS;
    }

    private static boolean isBy(int by) {
        return by == BY_TRUE || by == BY_FORETOLD;
    }

    private int refusalOfMember(int set, int table) {
        if (!shelf.isSet(set)) {
            return OUTSIDE;
        }
        boolean within = shelf.holds(table) && (set >> table & 1) == 1;
        return within ? NOT_REFUSED : UNKNOWN;
    }

    private int refusalOfChoice(int set, int shape, int by, int letter) {
        boolean isShape = shape == ALL_SHAPES || shape == IN_A_ROW;
        boolean isWish = letter == NONE || isLetter(letter);
        if (!shelf.isSet(set) || !isShape || !isBy(by) || !isWish) {
            return OUTSIDE;
        }
        return choices >= MOST_CHOICES ? STATE : NOT_REFUSED;
    }

    /**
     * A row (or a joined row) is one int, four binary figures for each letter, so that two of them
     * are compared by some letters in one step.
     */
    private static final class Pack {
        private Pack() {
        }

        static int codeOf(int letters, int x, int y, int z) {
            int code = 0;
            int told = 0;
            for (int letter = 0; letter < MOST_LETTERS; letter++) {
                if ((letters >> letter & 1) == 1) {
                    int number = told == 0 ? x : told == 1 ? y : z;
                    code |= number << 4 * letter;
                    told++;
                }
            }
            return code;
        }

        static int numberIn(int code, int letter) {
            return code >>> 4 * letter & 15;
        }

        static int maskOf(int letters) {
            int mask = 0;
            for (int letter = 0; letter < MOST_LETTERS; letter++) {
                if ((letters >> letter & 1) == 1) {
                    mask |= 15 << 4 * letter;
                }
            }
            return mask;
        }
    }

    /** What steps cost in pages beyond what their sides cost. */
    private static final class Price {
        private Price() {
        }

        static int roundedUp(int a, int by) {
            return by < 1 ? 0 : (a + by - 1) / by;
        }

        static int loops(int a, int b, int memory) {
            int room = memory - 2;
            return a > room ? b * (roundedUp(a, room) - 1) : 0;
        }

        static int parts(int a, int b, int memory) {
            return Math.min(a, b) > memory - 2 ? 2 * (a + b) : 0;
        }

        static int sorting(int a, int memory) {
            if (a <= 0) {
                return 0;
            }
            int runs = roundedUp(a, memory);
            int passes = 1;
            // each pass at least halves the runs, so 32 is beyond what any int needs
            while (runs > 1 && passes < 32) {
                runs = roundedUp(runs, memory - 1);
                passes++;
            }
            return 2 * a * passes;
        }
    }

    /** The tables with their rows, and the two rules. */
    private static final class Shelf {
        private final int[] letterBits = new int[MOST_TABLES];
        private final int[] perPage = new int[MOST_TABLES];
        private final int[] rowCount = new int[MOST_TABLES];
        private final int[] codes = new int[MOST_TABLES * MOST_ROWS];
        private final int[] sorted = new int[MOST_ROWS];
        private int made = 0;
        private int wide = 2;
        private int memory = 3;

        boolean holds(int t) {
            return t >= 0 && t < made;
        }

        boolean holdsRow(int t, int i) {
            return t >= 0 && t < made && i >= 0 && i < rowCount[t];
        }

        boolean hasLetter(int t, int letter) {
            return t >= 0 && t < made && letter >= 0 && letter < MOST_LETTERS
                    && (letterBits[t] >> letter & 1) == 1;
        }

        boolean isSet(int set) {
            return set >= 1 && set < 1 << made;
        }

        int tablesMade() {
            return made;
        }

        int allTables() {
            return (1 << made) - 1;
        }

        int lettersOf(int t) {
            return t >= 0 && t < made ? letterBits[t] : 0;
        }

        int perOf(int t) {
            return t >= 0 && t < made ? perPage[t] : 0;
        }

        int rowsOf(int t) {
            return t >= 0 && t < made ? rowCount[t] : 0;
        }

        int pagesOfTable(int t) {
            return Price.roundedUp(rowsOf(t), perOf(t));
        }

        int codeAt(int t, int i) {
            boolean there = t >= 0 && t < made && i >= 0 && i < rowCount[t];
            return there ? codes[t * MOST_ROWS + i] : 0;
        }

        int wide() {
            return wide;
        }

        int memory() {
            return memory;
        }

        int putWide(int v) {
            int was = wide;
            wide = v;
            return was;
        }

        int putMemory(int v) {
            int was = memory;
            memory = v;
            return was;
        }

        int addTable(int letters, int per) {
            if (made >= MOST_TABLES) {
                return FULL;
            }
            letterBits[made] = letters;
            perPage[made] = per;
            made++;
            return made - 1;
        }

        int addRow(int t, int code) {
            if (!holds(t)) {
                return 0;
            }
            int n = rowCount[t];
            if (n < 0 || n >= MOST_ROWS) {
                return n;
            }
            codes[t * MOST_ROWS + n] = code;
            rowCount[t] = n + 1;
            return n + 1;
        }

        int addSeeded(int t, int seed, int n, int most) {
            if (most < 1) {
                return 0;
            }
            int come = Math.min(n, MOST_ROWS - rowsOf(t));
            long x = seed;
            for (int k = 0; k < come; k++) {
                int code = 0;
                for (int letter = 0; letter < MOST_LETTERS; letter++) {
                    if (hasLetter(t, letter)) {
                        x = 1103515245L * x + 12345L & 0x7fffffffL;
                        code |= (int) (x / 65536 % most) << 4 * letter;
                    }
                }
                addRow(t, code);
            }
            return come;
        }

        int dropRow(int t, int i) {
            if (!holdsRow(t, i)) {
                return rowsOf(t);
            }
            for (int k = i + 1; k < rowCount[t]; k++) {
                codes[t * MOST_ROWS + k - 1] = codes[t * MOST_ROWS + k];
            }
            rowCount[t]--;
            return rowCount[t];
        }

        int sortRows(int t, int letter) {
            int n = rowsOf(t);
            int elsewhere = 0;
            for (int i = 0; i < n; i++) {
                int place = placeOf(t, i, letter);
                if (place != i) {
                    elsewhere++;
                }
                if (place >= 0 && place < MOST_ROWS) {
                    sorted[place] = codeAt(t, i);
                }
            }
            for (int i = 0; i < n; i++) {
                codes[t * MOST_ROWS + i] = sorted[i];
            }
            return elsewhere;
        }

        private int placeOf(int t, int i, int letter) {
            int number = Pack.numberIn(codeAt(t, i), letter);
            int ahead = 0;
            for (int k = 0; k < rowsOf(t); k++) {
                int other = Pack.numberIn(codeAt(t, k), letter);
                if (other < number || other == number && k < i) {
                    ahead++;
                }
            }
            return ahead;
        }

        int sortedLetter(int t) {
            for (int letter = 0; letter < MOST_LETTERS; letter++) {
                if (hasLetter(t, letter) && rowsRise(t, letter)) {
                    return letter;
                }
            }
            return NONE;
        }

        private boolean rowsRise(int t, int letter) {
            for (int i = 1; i < rowsOf(t); i++) {
                if (Pack.numberIn(codeAt(t, i), letter) < Pack.numberIn(codeAt(t, i - 1), letter)) {
                    return false;
                }
            }
            return true;
        }

        int unlikeNumbers(int t, int letter) {
            int seen = 0;
            for (int i = 0; i < rowsOf(t); i++) {
                seen |= 1 << Pack.numberIn(codeAt(t, i), letter);
            }
            return Integer.bitCount(seen);
        }

        int rowsOfAll() {
            int sum = 0;
            for (int t = 0; t < made; t++) {
                sum += rowCount[t];
            }
            return sum;
        }

        int lettersOfSet(int set) {
            int letters = 0;
            for (int t = 0; t < made; t++) {
                if ((set >> t & 1) == 1) {
                    letters |= letterBits[t];
                }
            }
            return letters;
        }

        int fewestThatCover(int set) {
            int all = lettersOfSet(set);
            int fewest = set;
            // bits rise, so of like ones the first stays
            for (int sub = 1; sub < SETS && sub < set; sub++) {
                boolean covers = (sub & ~set) == 0 && lettersOfSet(sub) == all;
                if (covers && Integer.bitCount(sub) < Integer.bitCount(fewest)) {
                    fewest = sub;
                }
            }
            return fewest;
        }
    }

    /** Joined rows of a set and the sizes of sets. */
    private static final class Matches {
        private final Shelf shelf;
        private final int[] allowed = new int[MOST_TABLES];
        private final int[] weight = new int[MOST_TABLES * MOST_ROWS];
        private final int[] boundMask = new int[MOST_TABLES];
        private final int[] found = new int[MOST_TABLES];

        Matches(Shelf shelf) {
            this.shelf = shelf;
        }

        int pagesOf(int set, int by) {
            if (Integer.bitCount(set) == 1) {
                return shelf.pagesOfTable(Integer.numberOfTrailingZeros(set));
            }
            return Price.roundedUp(sizeOf(set, by), shelf.wide());
        }

        int sizeOf(int set, int by) {
            if (by == BY_FORETOLD) {
                return foretold(set);
            }
            allowAllRows();
            return counted(set);
        }

        private int foretold(int set) {
            long rows = 1;
            for (int t = 0; t < MOST_TABLES; t++) {
                if ((set >> t & 1) == 1) {
                    rows *= shelf.rowsOf(t);
                }
            }
            long divisor = 1;
            for (int letter = 0; letter < MOST_LETTERS; letter++) {
                divisor *= unlikeButLeast(set, letter);
            }
            return rows < 1 || divisor < 1 ? 0 : (int) (rows / divisor);
        }

        private long unlikeButLeast(int set, int letter) {
            long product = 1;
            int least = 0;
            for (int t = 0; t < MOST_TABLES; t++) {
                if ((set >> t & 1) == 1 && shelf.hasLetter(t, letter)) {
                    int unlike = shelf.unlikeNumbers(t, letter);
                    product *= unlike;
                    least = least == 0 ? unlike : Math.min(least, unlike);
                }
            }
            return least < 1 ? 1 : product / least;
        }

        boolean find(int set, int i) {
            allowAllRows();
            if (i < 0 || i >= counted(set)) {
                return false;
            }
            int ahead = i;
            for (int t = 0; t < MOST_TABLES; t++) {
                if ((set >> t & 1) == 1) {
                    ahead = fixRow(set, t, ahead);
                }
            }
            return true;
        }

        /** Fixes the row of t in which the joined row behind `ahead` others lies: how many of those it has. */
        private int fixRow(int set, int t, int ahead) {
            int rest = ahead;
            for (int i = 0; i < shelf.rowsOf(t); i++) {
                allowed[t] = 1 << i;
                found[t] = i;
                int with = counted(set);
                if (rest < with) {
                    return rest;
                }
                rest -= with;
            }
            return rest;
        }

        int rowFound(int t) {
            return t >= 0 && t < MOST_TABLES ? found[t] : NONE;
        }

        int numberFound(int set, int letter) {
            for (int t = 0; t < MOST_TABLES; t++) {
                if ((set >> t & 1) == 1 && shelf.hasLetter(t, letter)) {
                    return Pack.numberIn(shelf.codeAt(t, found[t]), letter);
                }
            }
            return NONE;
        }

        int idleRows(int set, int t) {
            if (t < 0 || t >= MOST_TABLES) {
                return 0;
            }
            allowAllRows();
            int idle = 0;
            for (int i = 0; i < shelf.rowsOf(t); i++) {
                allowed[t] = 1 << i;
                if (counted(set) == 0) {
                    idle++;
                }
            }
            return idle;
        }

        private void allowAllRows() {
            Arrays.fill(allowed, (1 << MOST_ROWS) - 1);
        }

        /** How many joined rows a set has, of allowed rows alone. */
        private int counted(int set) {
            int bound = 0;
            for (int t = 0; t < MOST_TABLES; t++) {
                if ((set >> t & 1) == 1) {
                    int own = shelf.lettersOf(t);
                    boundMask[t] = Pack.maskOf(own & bound);
                    bound |= own;
                    weigh(t, Pack.maskOf(own & shelf.lettersOfSet(set & ~(1 << t))));
                }
            }
            return countFrom(set, 0, 0);
        }

        /**
         * Rows that are alike by all letters that other tables see are counted as one of their
         * weight: without it six tables of like rows would have 262144 choices to go through.
         */
        private void weigh(int t, int mask) {
            int base = t * MOST_ROWS;
            for (int i = 0; i < MOST_ROWS; i++) {
                weight[base + i] = 0;
                if (i < shelf.rowsOf(t) && (allowed[t] >> i & 1) == 1) {
                    weight[base + firstLike(t, i, mask)]++;
                }
            }
        }

        private int firstLike(int t, int i, int mask) {
            int code = shelf.codeAt(t, i);
            for (int k = 0; k < i; k++) {
                if (weight[t * MOST_ROWS + k] > 0 && ((code ^ shelf.codeAt(t, k)) & mask) == 0) {
                    return k;
                }
            }
            return i;
        }

        private int countFrom(int set, int t, int code) {
            if (t < 0 || t >= MOST_TABLES) {
                return 1;
            }
            if ((set >> t & 1) == 0) {
                return countFrom(set, t + 1, code);
            }
            int sum = 0;
            for (int i = 0; i < MOST_ROWS; i++) {
                int times = weight[t * MOST_ROWS + i];
                int own = shelf.codeAt(t, i);
                if (times > 0 && ((own ^ code) & boundMask[t]) == 0) {
                    sum += times * countFrom(set, t + 1, code | own);
                }
            }
            return sum;
        }
    }

    /** THE PAGE, and how far it reads as a plan. */
    private static final class Sheet {
        private final int[] signs = new int[MOST_SIGNS];
        private int length = 0;
        private int told;
        private int due;
        private int open;
        private int sides;
        private boolean ended;

        int append(long w, int come) {
            if (length + come > MOST_SIGNS) {
                return FULL;
            }
            for (int k = 0; k < come && length < MOST_SIGNS; k++) {
                signs[length] = (int) (w >>> 8 * k & 255);
                length++;
            }
            return length;
        }

        int wipe() {
            int was = length;
            length = 0;
            return was;
        }

        int length() {
            return length;
        }

        int[] signs() {
            return signs;
        }

        int signAt(int i) {
            return i >= 0 && i < length ? signs[i] : NONE;
        }

        boolean isPlan(int tables) {
            return readable(tables) == length && ended && open == 0;
        }

        int readable(int tables) {
            told = 0;
            due = 1;
            open = 0;
            sides = 0;
            ended = false;
            for (int i = 0; i < length; i++) {
                if (!takes(signs[i], tables)) {
                    return i;
                }
            }
            return length;
        }

        private boolean takes(int sign, int tables) {
            if (!ended) {
                return sign == '(' ? takesOpen(tables) : takesTable(sign - '0', tables);
            }
            if (open == 0) {
                return false;
            }
            return atRightSide() ? takesClose(sign) : takesWay(sign);
        }

        // the lowest bit of sides belongs to the "(" that was opened last
        private boolean atRightSide() {
            return (sides & 1) == 1;
        }

        private boolean takesOpen(int tables) {
            // one plan that was due becomes two
            if (Integer.bitCount(told) + due + 1 > tables) {
                return false;
            }
            due++;
            open++;
            sides <<= 1;
            return true;
        }

        private boolean takesTable(int t, int tables) {
            if (t < 0 || t >= tables || (told >> t & 1) == 1) {
                return false;
            }
            told |= 1 << t;
            due--;
            ended = true;
            return true;
        }

        private boolean takesWay(int sign) {
            if (sign != 'l' && sign != 'p' && sign != 's') {
                return false;
            }
            sides |= 1;
            ended = false;
            return true;
        }

        private boolean takesClose(int sign) {
            if (sign != ')') {
                return false;
            }
            open--;
            sides >>= 1;
            return true;
        }
    }

    /** Set, cost, order and steps of a text that is a plan. */
    private static final class Judge {
        private final Shelf shelf;
        private final Matches matches;
        private final int[] sets = new int[MOST_TABLES];
        private final int[] costs = new int[MOST_TABLES];
        private final int[] orders = new int[MOST_TABLES];
        private final int[] pageCounts = new int[MOST_TABLES];
        private final int[] ways = new int[MOST_TABLES];
        private int held;
        private int waiting;
        private int joins;
        private boolean doable;

        Judge(Shelf shelf, Matches matches) {
            this.shelf = shelf;
            this.matches = matches;
        }

        void read(int[] signs, int length, int by) {
            held = 0;
            waiting = 0;
            joins = 0;
            doable = true;
            for (int i = 0; i < length && i < signs.length; i++) {
                int sign = signs[i];
                boolean isTable = sign >= '0' && sign < '0' + MOST_TABLES;
                boolean isStep = sign == ')';
                if (isTable) {
                    holdTable(sign - '0');
                } else if (isStep) {
                    joinLastTwo();
                } else if (sign != '(') {
                    holdWay(sign);
                }
                // its pages are told here, not where it is held: the chain of calls behind them is long
                if ((isTable || isStep) && held > 0 && held <= MOST_TABLES) {
                    pageCounts[held - 1] = matches.pagesOf(sets[held - 1], by);
                }
            }
        }

        private void holdTable(int t) {
            if (held < 0 || held >= MOST_TABLES) {
                return;
            }
            sets[held] = 1 << t;
            costs[held] = shelf.pagesOfTable(t);
            orders[held] = shelf.sortedLetter(t);
            held++;
        }

        private void holdWay(int way) {
            if (waiting < 0 || waiting >= MOST_TABLES) {
                return;
            }
            ways[waiting] = way;
            waiting++;
        }

        private void joinLastTwo() {
            if (held < 2 || held > MOST_TABLES || waiting < 1 || waiting > MOST_TABLES) {
                return;
            }
            waiting--;
            held--;
            int x = held - 1;
            int y = held;
            int shared = shelf.lettersOfSet(sets[x]) & shelf.lettersOfSet(sets[y]);
            int way = ways[waiting];
            costs[x] += costs[y];
            if (way == 'l') {
                costs[x] += Price.loops(pageCounts[x], pageCounts[y], shelf.memory());
            } else if (shared == 0) {
                doable = false;
            } else if (way == 'p') {
                costs[x] += Price.parts(pageCounts[x], pageCounts[y], shelf.memory());
                orders[x] = NONE;
            } else {
                int letter = Integer.numberOfTrailingZeros(shared);
                costs[x] += sortingUnless(x, letter) + sortingUnless(y, letter);
                orders[x] = letter;
            }
            sets[x] |= sets[y];
            joins++;
        }

        private int sortingUnless(int side, int letter) {
            if (side < 0 || side >= MOST_TABLES || orders[side] == letter) {
                return 0;
            }
            return Price.sorting(pageCounts[side], shelf.memory());
        }

        boolean canBeDone() {
            return doable;
        }

        int tablesRead() {
            return sets[0];
        }

        int costRead() {
            return costs[0];
        }

        int letterRead() {
            return orders[0];
        }

        int stepsRead() {
            return joins;
        }
    }

    /**
     * The best plans of a set and all its subsets. For each subset the best is kept of those that are
     * sorted by a letter, for each letter, and of them all: what a plan costs as a side depends on
     * nothing else, and to be sorted by none is never of use.
     *
     * A plan is kept as its KEY, four binary figures for each sign but ")", which rise as the codes
     * of the signs do. Plans of one set have equally many signs, and ")" stands only where nothing
     * else may, so keys are ordered as texts are; six tables have 16 such signs: one long.
     */
    private static final class Chooser {
        private static final int ANY = MOST_LETTERS;
        private static final int SLOTS = MOST_LETTERS + 1;
        private static final int KEY_OPEN = 1;
        private static final int KEY_TABLE = 2;
        private static final int KEY_LOOPS = 8;
        private static final int KEY_PARTS = 9;
        private static final int KEY_SORTED = 10;
        private static final int MOST_TEXT = 4 * MOST_TABLES - 3;
        private static final int ABSENT = -1;

        private final Shelf shelf;
        private final Matches matches;
        private final int[] costs = new int[SETS * SLOTS];
        private final long[] keys = new long[SETS * SLOTS];
        private final int[] pageCounts = new int[SETS];
        private final int[] sortings = new int[SETS];
        private final int[] text = new int[MOST_TEXT];
        private int length;

        Chooser(Shelf shelf, Matches matches) {
            this.shelf = shelf;
            this.matches = matches;
        }

        void choose(int set, int shape, int by) {
            for (int sub = 1; sub < SETS && sub <= set; sub++) {
                if ((sub & ~set) == 0) {
                    pageCounts[sub] = matches.pagesOf(sub, by);
                    sortings[sub] = Price.sorting(pageCounts[sub], shelf.memory());
                    forget(sub);
                    if (Integer.bitCount(sub) == 1) {
                        takeTable(sub);
                    } else {
                        takeSteps(sub, shape);
                    }
                }
            }
        }

        private void forget(int sub) {
            for (int slot = 0; slot < SLOTS; slot++) {
                costs[sub * SLOTS + slot] = ABSENT;
            }
        }

        private void takeTable(int sub) {
            int t = Integer.numberOfTrailingZeros(sub);
            int letter = shelf.sortedLetter(t);
            offer(sub, letter == NONE ? ANY : letter, pageCounts[sub], KEY_TABLE + t);
        }

        private void takeSteps(int sub, int shape) {
            for (int left = 1; left < sub; left++) {
                int right = sub & ~left;
                boolean fits = shape == ALL_SHAPES || Integer.bitCount(right) == 1;
                if ((left & ~sub) == 0 && fits) {
                    takeLoops(left, right);
                    int shared = shelf.lettersOfSet(left) & shelf.lettersOfSet(right);
                    if (shared != 0) {
                        takeParts(left, right);
                        takeSorted(left, right, Integer.numberOfTrailingZeros(shared));
                    }
                }
            }
        }

        private void takeLoops(int left, int right) {
            int y = right * SLOTS + ANY;
            int more = costs[y] + Price.loops(pageCounts[left], pageCounts[right], shelf.memory());
            for (int slot = 0; slot < SLOTS; slot++) {
                int x = left * SLOTS + slot;
                if (costs[x] != ABSENT) {
                    long key = keyOfStep(left, keys[x], KEY_LOOPS, right, keys[y]);
                    offer(left | right, slot, costs[x] + more, key);
                }
            }
        }

        private void takeParts(int left, int right) {
            int x = left * SLOTS + ANY;
            int y = right * SLOTS + ANY;
            int more = Price.parts(pageCounts[left], pageCounts[right], shelf.memory());
            long key = keyOfStep(left, keys[x], KEY_PARTS, right, keys[y]);
            offer(left | right, ANY, costs[x] + costs[y] + more, key);
        }

        private void takeSorted(int left, int right, int letter) {
            int cost = costFor(left, letter) + costFor(right, letter);
            long key = keyOfStep(left, keyFor(left, letter), KEY_SORTED, right, keyFor(right, letter));
            offer(left | right, letter, cost, key);
        }

        private static long keyOfStep(int left, long leftKey, int way, int right, long rightKey) {
            long key = (long) KEY_OPEN << 4 * keySigns(left) | leftKey;
            return (key << 4 | way) << 4 * keySigns(right) | rightKey;
        }

        private static int keySigns(int set) {
            return 3 * Integer.bitCount(set) - 2;
        }

        private void offer(int set, int slot, int cost, long key) {
            putIfBetter(set * SLOTS + slot, cost, key);
            putIfBetter(set * SLOTS + ANY, cost, key);
        }

        private void putIfBetter(int at, int cost, long key) {
            if (at < 0 || at >= costs.length) {
                return;
            }
            boolean first = costs[at] == ABSENT;
            if (first || cost < costs[at] || cost == costs[at] && key < keys[at]) {
                costs[at] = cost;
                keys[at] = key;
            }
        }

        /** The cost of the best plan of a subset that was looked at, if it is wished sorted by a letter (or NONE). */
        int costFor(int set, int letter) {
            if (set < 1 || set >= SETS) {
                return 0;
            }
            int slot = slotFor(set, letter);
            int cost = costs[set * SLOTS + slot];
            return letter == NONE || slot == letter ? cost : cost + sortings[set];
        }

        private long keyFor(int set, int letter) {
            return set < 1 || set >= SETS ? 0 : keys[set * SLOTS + slotFor(set, letter)];
        }

        /** Where the best plan of a subset is kept: what is sorted already, or what is cheapest and is sorted then. */
        private int slotFor(int set, int letter) {
            if (set < 1 || set >= SETS || !isLetter(letter)) {
                return ANY;
            }
            int any = set * SLOTS + ANY;
            int ready = set * SLOTS + letter;
            if (costs[ready] == ABSENT) {
                return ANY;
            }
            int sortedThen = costs[any] + sortings[set];
            boolean asGood = costs[ready] == sortedThen && keys[ready] <= keys[any];
            return costs[ready] < sortedThen || asGood ? letter : ANY;
        }

        /** Writes the text of the best plan: how many signs it has. */
        int write(int set, int letter) {
            long key = keyFor(set, letter);
            int open = 0;
            int sides = 0;
            length = 0;
            for (int k = keySigns(set) - 1; k >= 0; k--) {
                int sign = (int) (key >>> 4 * k & 15);
                put(codeOf(sign));
                if (sign == KEY_OPEN) {
                    open++;
                    sides <<= 1;
                } else if (sign >= KEY_LOOPS) {
                    sides |= 1;
                } else {
                    while (open > 0 && (sides & 1) == 1) {
                        put(')');
                        open--;
                        sides >>= 1;
                    }
                }
            }
            return length;
        }

        private static int codeOf(int sign) {
            switch (sign) {
                case KEY_OPEN:
                    return '(';
                case KEY_LOOPS:
                    return 'l';
                case KEY_PARTS:
                    return 'p';
                case KEY_SORTED:
                    return 's';
                default:
                    return '0' + sign - KEY_TABLE;
            }
        }

        private void put(int code) {
            if (length >= 0 && length < MOST_TEXT) {
                text[length] = code;
                length++;
            }
        }

        int[] signs() {
            return text;
        }

        int signAt(int i) {
            return i >= 0 && i < length ? text[i] : NONE;
        }
    }

    /** How a set is taken away table by table, and the full cut along that order. */
    private static final class Hanging {
        private final Shelf shelf;
        private final int[] order = new int[MOST_TABLES];
        private final int[] hooks = new int[MOST_TABLES];
        private final int[] rowBits = new int[MOST_TABLES];
        private int gone;
        private int cutRows;

        Hanging(Shelf shelf) {
            this.shelf = shelf;
        }

        /** Takes away what may go: whether that is all. */
        boolean takeAway(int set) {
            gone = 0;
            Arrays.fill(hooks, NONE);
            int there = set;
            for (int round = 0; round < MOST_TABLES && there != 0; round++) {
                int t = nextToGo(there);
                if (t == NONE) {
                    return false;
                }
                order[round] = t;
                hooks[t] = hookAmong(there, t);
                gone = round + 1;
                there &= ~(1 << t);
            }
            return there == 0;
        }

        private int nextToGo(int there) {
            for (int t = 0; t < MOST_TABLES; t++) {
                boolean within = (there >> t & 1) == 1;
                if (within && (there == 1 << t || hookAmong(there, t) != NONE)) {
                    return t;
                }
            }
            return NONE;
        }

        private int hookAmong(int there, int t) {
            int others = there & ~(1 << t);
            int shared = shelf.lettersOf(t) & shelf.lettersOfSet(others);
            for (int other = 0; other < MOST_TABLES; other++) {
                if ((others >> other & 1) == 1 && (shared & ~shelf.lettersOf(other)) == 0) {
                    return other;
                }
            }
            return NONE;
        }

        int goneAt(int i) {
            return i >= 0 && i < gone ? order[i] : NONE;
        }

        int hookOf(int t) {
            return t >= 0 && t < MOST_TABLES ? hooks[t] : NONE;
        }

        /** The full cut of a set: whether it hangs, so that there is one. */
        boolean fullCut(int set) {
            if (!takeAway(set)) {
                return false;
            }
            cutRows = 0;
            for (int t = 0; t < MOST_TABLES; t++) {
                rowBits[t] = (1 << shelf.rowsOf(t)) - 1;
            }
            for (int k = 0; k < gone; k++) {
                cut(hookOf(order[k]), order[k]);
            }
            for (int k = gone - 1; k >= 0; k--) {
                cut(order[k], hookOf(order[k]));
            }
            return true;
        }

        private void cut(int t, int other) {
            if (!shelf.holds(t) || !shelf.holds(other)) {
                return;
            }
            int mask = Pack.maskOf(shelf.lettersOf(t) & shelf.lettersOf(other));
            for (int i = 0; i < MOST_ROWS; i++) {
                boolean there = (rowBits[t] >> i & 1) == 1;
                if (there && !fitsSome(shelf.codeAt(t, i), other, mask)) {
                    rowBits[t] &= ~(1 << i);
                    cutRows++;
                }
            }
        }

        private boolean fitsSome(int code, int other, int mask) {
            for (int i = 0; i < MOST_ROWS; i++) {
                boolean there = (rowBits[other] >> i & 1) == 1;
                if (there && ((code ^ shelf.codeAt(other, i)) & mask) == 0) {
                    return true;
                }
            }
            return false;
        }

        int rowsLeft(int t) {
            return t >= 0 && t < MOST_TABLES ? rowBits[t] : 0;
        }

        int rowsCut() {
            return cutRows;
        }
    }
}
