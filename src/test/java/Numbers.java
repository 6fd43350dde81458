import java.util.Arrays;
import java.util.Random;

/** All numbers of a program: as they are due, or as a program shows them to someone who can only call it. */
final class Numbers {
    /** Makes the same program again and again, as each reading spoils the program that it reads. */
    interface Maker {
        RationalProgram make();
    }

    /** What is told of c(j) in a program without rows, where only that it is above 0 can be seen. */
    private static final int SOMETHING = 1;

    /** Counting ends here, far above the document's limits, however wrong the program is. */
    private static final int MOST = 9;

    final int n;
    final int m;
    final int[][] a;
    final int[] senses;
    final int[] b;
    final int[] c;
    final int[] e;

    Numbers(int n, int m) {
        this.n = n;
        this.m = m;
        a = new int[m][n];
        senses = new int[m];
        b = new int[m];
        c = new int[n];
        e = new int[m];
    }

    /** Four variables and three rows, no number of them 0 and each row other than the next. */
    static Numbers full() {
        Numbers due = new Numbers(4, 3);
        int[][] factors = {{1, 2, 3, 4}, {-5, 6, 7, 8}, {9, -9, -7, 5}};
        for (int i = 0; i < 3; i++) {
            due.a[i] = factors[i].clone();
            due.senses[i] = new int[] {2, 1, 2}[i];
            due.b[i] = new int[] {11, 50, -50}[i];
            due.e[i] = new int[] {9, -9, 3}[i];
        }
        for (int j = 0; j < 4; j++) {
            due.c[j] = new int[] {-9, -1, -6, -3}[j];
        }
        return due;
    }

    /** The reach is how far numbers go: small ones make rows meet in one point, great ones make great fractions. */
    static Numbers some(Random random, int reach) {
        int n = 1 + random.nextInt(4);
        int m = random.nextInt(8) == 0 ? random.nextInt(4) : 1 + random.nextInt(3);
        Numbers some = new Numbers(n, m);
        for (int i = 0; i < m; i++) {
            for (int j = 0; j < n; j++) {
                some.a[i][j] = upTo(random, reach);
            }
            int right = upTo(random, reach == 9 ? 50 : 3 * reach);
            some.senses[i] = random.nextInt(3);
            some.b[i] = random.nextInt(3) > 0 ? Math.abs(right) : right;
            some.e[i] = upTo(random, reach);
        }
        // Worths that fall more often than they rise leave more programs with best points.
        int falling = random.nextInt(3);
        for (int j = 0; j < n; j++) {
            int v = upTo(random, reach);
            some.c[j] = falling > 0 && random.nextInt(3) > 0 ? -Math.abs(v) : v;
        }
        return some;
    }

    /** A number as far from 0 as most, or less far. */
    static int upTo(Random random, int most) {
        return random.nextInt(2 * most + 1) - most;
    }

    /** The same numbers; rows that are new are all 0. */
    Numbers withRows(int rows) {
        Numbers other = new Numbers(n, rows);
        for (int i = 0; i < Math.min(m, rows); i++) {
            other.a[i] = a[i].clone();
            other.senses[i] = senses[i];
            other.b[i] = b[i];
            other.e[i] = e[i];
        }
        System.arraycopy(c, 0, other.c, 0, n);
        return other;
    }

    /** A program with these numbers, which has been asked already, so that it may hold answers to forget. */
    RationalProgram make() {
        RationalProgram x = new RationalProgram();
        x.begin(n, m);
        for (int i = 0; i < m; i++) {
            Ask.setRow(x, i, senses[i], b[i], a[i]);
            x.drift(i, e[i]);
        }
        for (int j = 0; j < n; j++) {
            x.want(j, c[j]);
        }
        x.solve();
        x.corners();
        return x;
    }

    static Numbers read(Maker maker) {
        Numbers seen = new Numbers(countVariables(maker.make()), countRows(maker.make()));
        for (int i = 0; i < seen.m; i++) {
            for (int j = 0; j < seen.n; j++) {
                seen.a[i][j] = seen.readFactor(maker.make(), i, j);
            }
            seen.readSenseAndRight(maker, i);
            seen.e[i] = seen.readDrift(maker.make(), i);
        }
        for (int j = 0; j < seen.n; j++) {
            seen.c[j] = seen.readWant(maker.make(), j);
        }
        return seen;
    }

    /** A number out of bounds tells whether there is the place for it: another exception comes when there is none. */
    private static int countVariables(RationalProgram x) {
        int count = 0;
        while (count < MOST && hasPlace(wanting(x, count))) {
            count++;
        }
        return count;
    }

    private static Check.Change wanting(RationalProgram x, int j) {
        return () -> x.want(j, 10);
    }

    private static int countRows(RationalProgram x) {
        int count = 0;
        while (count < MOST && hasPlace(drifting(x, count))) {
            count++;
        }
        return count;
    }

    private static Check.Change drifting(RationalProgram x, int i) {
        return () -> x.drift(i, 10);
    }

    private static boolean hasPlace(Check.Change outOfBounds) {
        return Check.told(Check.asCall(outOfBounds)).equals("throws.IllegalArgumentException");
    }

    /** Makes all rows but one hold whatever the variables and whatever t. */
    private void silenceRowsBut(RationalProgram x, int row) {
        for (int i = 0; i < m; i++) {
            if (i != row) {
                Ask.setRow(x, i, 0, 9, new int[n]);
            }
        }
    }

    private void clearFactorsBut(RationalProgram x, int row, int variable) {
        for (int j = 0; j < n; j++) {
            if (j != variable) {
                x.coefficient(row, j, 0);
            }
        }
    }

    private void clearWantsBut(RationalProgram x, int variable) {
        for (int j = 0; j < n; j++) {
            if (j != variable) {
                x.want(j, 0);
            }
        }
    }

    private int readFactor(RationalProgram x, int i, int j) {
        silenceRowsBut(x, i);
        clearFactorsBut(x, i, j);
        for (int right : new int[] {50, -50}) {
            x.row(i, 1, right);
            if (x.solve() != RationalProgram.INFEASIBLE) {
                return (int) (right * x.range(j, false, 1) / x.range(j, false, 0));
            }
        }
        return 0;
    }

    /** The row of x(0) alone, and that of -x(0) alone, are seen together by one sense and one right side. */
    private void readSenseAndRight(Maker maker, int i) {
        String seen = span(maker.make(), i, 1) + " " + span(maker.make(), i, -1);
        for (int sense = 0; sense < 3; sense++) {
            for (int right = -50; right <= 50; right++) {
                if (seen.equals(dueSpan(sense, right) + " " + dueSpan(2 - sense, -right))) {
                    senses[i] = sense;
                    b[i] = right;
                    return;
                }
            }
        }
        throw new IllegalStateException("no sense and right side show " + seen);
    }

    private String span(RationalProgram x, int i, int factor) {
        silenceRowsBut(x, i);
        clearFactorsBut(x, i, 0);
        x.coefficient(i, 0, factor);
        if (x.solve() == RationalProgram.INFEASIBLE) {
            return "none";
        }
        String high = Check.told(() -> x.range(0, true, 0));
        return x.range(0, false, 0) + ".." + (high.startsWith("throws") ? "" : high);
    }

    private static String dueSpan(int sense, int right) {
        if (right < 0) {
            return sense == 2 ? "0.." : "none";
        }
        return (sense == 0 ? 0 : right) + ".." + (sense == 2 ? "" : String.valueOf(right));
    }

    private int readDrift(RationalProgram x, int i) {
        silenceRowsBut(x, i);
        clearFactorsBut(x, i, 0);
        clearWantsBut(x, 0);
        x.coefficient(i, 0, 1);
        x.row(i, 1, 9);
        x.want(0, 1);
        return (int) x.corner(x.corners() - 1, 2) - 9;
    }

    private int readWant(RationalProgram x, int j) {
        clearWantsBut(x, j);
        if (m == 0) {
            return x.solve() == RationalProgram.UNBOUNDED ? SOMETHING : 0;
        }
        silenceRowsBut(x, 0);
        clearFactorsBut(x, 0, j);
        x.coefficient(0, j, 1);
        x.row(0, 1, 1);
        return (int) x.value(0);
    }

    @Override
    public String toString() {
        return n + " variables, " + m + " rows, a " + Arrays.deepToString(a) + ", senses " + Arrays.toString(senses)
                + ", b " + Arrays.toString(b) + ", c " + Arrays.toString(c) + ", e " + Arrays.toString(e);
    }
}
