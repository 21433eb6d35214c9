/**
 * One sentence of the document on one new object: each answer is compared with the one that is due,
 * and a call that must change nothing is followed by a look at the digest, which tells all there is.
 */
final class Edge {
    static final int NONE = -1, UNKNOWN = -101, OUTSIDE = -102, STATE = -103, FULL = -104;
    static final int LEAST = Integer.MIN_VALUE, GREATEST = Integer.MAX_VALUE;
    private static final int MOST_CALLS = 512;
    private static int wrong = 0;

    final JoinWays x = new JoinWays();
    private final String sentence;
    private int calls = 0;
    private long before;

    Edge(String sentence) {
        this.sentence = sentence;
        note();
    }

    /** A call that is taken, and may change something. */
    void takes(String call, long got, long want) {
        spent(1);
        due(call, got, want);
        note();
    }

    /** A call that is answered (NONE and -2 too) and changes nothing. */
    void tells(String call, long got, long want) {
        spent(1);
        due(call, got, want);
        same(call);
    }

    void refuses(String call, long got, long want) {
        if (want > UNKNOWN || want < FULL) {
            fault(call + ": " + want + " is no refusal");
        }
        tells(call, got, want);
    }

    /** A table with some rows, each of which has a number for each letter. */
    Edge table(int letters, int per, int[]... rows) {
        int t = x.table(letters, per);
        spent(1);
        for (int[] row : rows) {
            x.row(t, row[0], row.length > 1 ? row[1] : 0, row.length > 2 ? row[2] : 0);
            spent(1);
        }
        note();
        return this;
    }

    /** A table of one letter, one row on a page, whose rows have these numbers. */
    Edge column(int letter, int... numbers) {
        int[][] rows = new int[numbers.length][];
        for (int k = 0; k < numbers.length; k++) {
            rows[k] = new int[] {numbers[k]};
        }
        return table(1 << letter, 1, rows);
    }

    /** Tables with these letters, without rows, one row on a page. */
    Edge bare(int... letters) {
        for (int bits : letters) {
            table(bits, 1);
        }
        return this;
    }

    /** THE PAGE becomes this text. */
    Edge page(String text) {
        x.blank();
        spent(1);
        for (int from = 0; from < text.length(); from += 8) {
            x.letters(word(text.substring(from, Math.min(from + 8, text.length()))));
            spent(1);
        }
        note();
        return this;
    }

    Edge rules(int wide, int memory) {
        x.rule(0, wide);
        x.rule(1, memory);
        spent(2);
        note();
        return this;
    }

    static long word(String text) {
        long w = 0;
        for (int k = text.length() - 1; k >= 0; k--) {
            w = w << 8 | text.charAt(k);
        }
        return w;
    }

    static int[] rising(int many) {
        int[] numbers = new int[many];
        for (int k = 0; k < many; k++) {
            numbers[k] = k;
        }
        return numbers;
    }

    static int[] falling(int many) {
        int[] numbers = new int[many];
        for (int k = 0; k < many; k++) {
            numbers[k] = 9 - k;
        }
        return numbers;
    }

    static int[] alike(int many) {
        return new int[many];
    }

    static void end(String good) {
        System.out.println(wrong == 0 ? good : wrong + " answers are not as due");
        System.exit(wrong == 0 ? 0 : 1);
    }

    private void note() {
        before = x.digest();
        spent(1);
    }

    private void same(String call) {
        due(call + ", the digest then", x.digest(), before);
        spent(1);
    }

    // behind the 512th call answers are free, so a test that is so long shows nothing
    private void spent(int more) {
        calls += more;
        if (calls > MOST_CALLS) {
            fault("more than " + MOST_CALLS + " calls of one object");
        }
    }

    private void due(String call, long got, long want) {
        if (got != want) {
            fault(call + " answered " + got + ", due is " + want);
        }
    }

    private void fault(String what) {
        wrong++;
        System.out.println(sentence + " | " + what);
    }
}
