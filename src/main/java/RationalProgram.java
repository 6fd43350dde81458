/**
 * Linear programs with whole numbers in them, solved exactly.
 *
 * How it works: a row "sum of a(j) * x(j) is at most b + t * e" is read as
 * "sum of a(j) * x(j) - b * u - (b + e) * w is at most 0" with two more
 * variables u and w from 0 on. A point of the program at t is then a ray
 * (u, w, x) with t = w / (u + w) and x(j) / (u + w) as its variables, and a ray
 * with u = w = 0 is a direction in which every feasible point may go on for
 * ever. All such rays are sums of finitely many edge rays; those are whole
 * numbers, and every question is answered by looking through them.
 */
public final class RationalProgram {
    public static final int OPTIMAL = 0, INFEASIBLE = 1, UNBOUNDED = 2;

    private static final int MOST_VARIABLES = 4;
    private static final int MOST_ROWS = 3;
    private static final int MOST_FACTOR = 9;
    private static final int MOST_RIGHT = 50;

    private static final int AT_MOST = 0;
    private static final int EXACTLY = 1;
    private static final int AT_LEAST = 2;

    /** The columns of a ray: u, w, and then the variables. */
    private static final int START = 0;
    private static final int END = 1;
    private static final int FIRST = 2;
    private static final int MOST_COLUMNS = FIRST + MOST_VARIABLES;

    /** How many columns of an edge ray can be above 0. */
    private static final int MOST_PLACES = MOST_ROWS + 1;

    /**
     * An edge ray has one column above 0 more than it has rows chosen to be
     * sharp: of 6 columns and 3 rows, 6 * 1 + 15 * 3 + 20 * 3 + 15 * 1 choices.
     */
    private static final int MOST_RAYS = 126;

    private static final int NONE = -1;

    /** Euclid's steps for two numbers of 63 bits stay below this. */
    private static final int MOST_STEPS = 100;

    private final Sheet sheet;
    private final Cone cone;
    private final int[] bends;

    public RationalProgram() {
        sheet = new Sheet();
        cone = new Cone();
        bends = new int[MOST_RAYS];
    }

    public void begin(int n, int m) throws IllegalArgumentException {
        if (n < 1 || n > MOST_VARIABLES || m < 0 || m > MOST_ROWS) {
            throw new IllegalArgumentException();
        }
        sheet.clear(n, m);
        cone.forget();
    }

    public void coefficient(int i, int j, int v) throws IndexOutOfBoundsException, IllegalArgumentException {
        if (!hasRow(i) || !hasVariable(j)) {
            throw new IndexOutOfBoundsException();
        }
        if (!isFactor(v)) {
            throw new IllegalArgumentException();
        }
        sheet.setFactor(i, j, v);
        cone.forget();
    }

    public void row(int i, int sense, int right) throws IndexOutOfBoundsException, IllegalArgumentException {
        if (!hasRow(i)) {
            throw new IndexOutOfBoundsException();
        }
        if (sense < AT_MOST || sense > AT_LEAST || right < -MOST_RIGHT || right > MOST_RIGHT) {
            throw new IllegalArgumentException();
        }
        sheet.setRow(i, sense, right);
        cone.forget();
    }

    // The edge rays do not depend on what is wanted, so they are kept here.
    public void want(int j, int v) throws IndexOutOfBoundsException, IllegalArgumentException {
        if (!hasVariable(j)) {
            throw new IndexOutOfBoundsException();
        }
        if (!isFactor(v)) {
            throw new IllegalArgumentException();
        }
        sheet.setWant(j, v);
    }

    public void drift(int i, int v) throws IndexOutOfBoundsException, IllegalArgumentException {
        if (!hasRow(i)) {
            throw new IndexOutOfBoundsException();
        }
        if (!isFactor(v)) {
            throw new IllegalArgumentException();
        }
        sheet.setDrift(i, v);
        cone.forget();
    }

    public int solve() {
        if (!isFeasible(sheet.allRows())) {
            return INFEASIBLE;
        }
        return canRise() ? UNBOUNDED : OPTIMAL;
    }

    public long value(int what) throws IllegalStateException, IllegalArgumentException {
        if (solve() != OPTIMAL) {
            throw new IllegalStateException();
        }
        if (!isPart(what)) {
            throw new IllegalArgumentException();
        }
        long[] best = bestRay();
        return partOf(sheet.worth(best), best[START], what);
    }

    public long point(int j, int what)
            throws IllegalStateException, IndexOutOfBoundsException, IllegalArgumentException {
        if (solve() != OPTIMAL) {
            throw new IllegalStateException();
        }
        if (!hasVariable(j)) {
            throw new IndexOutOfBoundsException();
        }
        if (!isPart(what)) {
            throw new IllegalArgumentException();
        }
        long[] best = bestRay();
        return partOf(best[FIRST + j], best[START], what);
    }

    public long range(int j, boolean high, int what) throws IllegalStateException, IndexOutOfBoundsException,
            IllegalArgumentException, UnsupportedOperationException {
        if (solve() == INFEASIBLE) {
            throw new IllegalStateException();
        }
        if (!hasVariable(j)) {
            throw new IndexOutOfBoundsException();
        }
        if (!isPart(what)) {
            throw new IllegalArgumentException();
        }
        if (high && canGrow(j)) {
            throw new UnsupportedOperationException();
        }
        long[] extreme = extremeRay(j, high);
        return partOf(extreme[FIRST + j], extreme[START], what);
    }

    public boolean tight(int i) throws IllegalStateException, IndexOutOfBoundsException {
        if (solve() != OPTIMAL) {
            throw new IllegalStateException();
        }
        if (!hasRow(i)) {
            throw new IndexOutOfBoundsException();
        }
        return isSharpInBest(i);
    }

    public int conflict() throws IllegalStateException {
        if (solve() != INFEASIBLE) {
            throw new IllegalStateException();
        }
        int staying = sheet.allRows();
        for (int i = 0; i < sheet.rows; i++) {
            int without = staying & ~(1 << i);
            if (!isFeasible(without)) {
                staying = without;
            }
        }
        return staying;
    }

    public int corners() {
        return traceBends();
    }

    public long corner(int k, int what) throws IndexOutOfBoundsException, IllegalArgumentException {
        int count = traceBends();
        if (k < 0 || k >= count) {
            throw new IndexOutOfBoundsException();
        }
        if (what < 0 || what > 3) {
            throw new IllegalArgumentException();
        }
        long[] ray = cone.rays[bends[k]];
        long below = ray[START] + ray[END];
        if (what < 2) {
            return partOf(ray[END], below, what);
        }
        return partOf(sheet.worth(ray), below, what - 2);
    }

    private boolean hasRow(int i) {
        return i >= 0 && i < sheet.rows;
    }

    private boolean hasVariable(int j) {
        return j >= 0 && j < sheet.variables;
    }

    private static boolean isFactor(int v) {
        return v >= -MOST_FACTOR && v <= MOST_FACTOR;
    }

    private static boolean isPart(int what) {
        return what == 0 || what == 1;
    }

    /** Whether there is a point at t = 0 in which the rows of the mask hold. */
    private boolean isFeasible(int rows) {
        cone.collect(sheet, rows);
        for (int g = 0; g < cone.count; g++) {
            if (isPoint(cone.rays[g])) {
                return true;
            }
        }
        return false;
    }

    /** Whether the worth rises for ever from every feasible point, at any t. */
    private boolean canRise() {
        for (int g = 0; g < cone.count; g++) {
            if (isDirection(cone.rays[g]) && sheet.worth(cone.rays[g]) > 0) {
                return true;
            }
        }
        return false;
    }

    private boolean canGrow(int j) {
        for (int g = 0; g < cone.count; g++) {
            if (isDirection(cone.rays[g]) && cone.rays[g][FIRST + j] > 0) {
                return true;
            }
        }
        return false;
    }

    private static boolean isPoint(long[] ray) {
        return ray[START] > 0 && ray[END] == 0;
    }

    private static boolean isDirection(long[] ray) {
        return ray[START] == 0 && ray[END] == 0;
    }

    /** The ray of the point that promise 9 asks for; asked only of OPTIMAL programs. */
    private long[] bestRay() {
        long[] best = cone.rays[0];
        for (int g = 1; g < cone.count; g++) {
            long[] ray = cone.rays[g];
            if (isPoint(ray) && (!isPoint(best) || isBetter(ray, best))) {
                best = ray;
            }
        }
        return best;
    }

    private boolean isBetter(long[] ray, long[] other) {
        int order = Long.compare(sheet.worth(ray) * other[START], sheet.worth(other) * ray[START]);
        if (order != 0) {
            return order > 0;
        }
        for (int column = FIRST; column < sheet.columns(); column++) {
            order = Long.compare(ray[column] * other[START], other[column] * ray[START]);
            if (order != 0) {
                return order < 0;
            }
        }
        return false;
    }

    private long[] extremeRay(int j, boolean high) {
        long[] extreme = cone.rays[0];
        for (int g = 1; g < cone.count; g++) {
            long[] ray = cone.rays[g];
            if (isPoint(ray) && (!isPoint(extreme) || isFarther(ray, extreme, j, high))) {
                extreme = ray;
            }
        }
        return extreme;
    }

    private static boolean isFarther(long[] ray, long[] other, int j, boolean high) {
        int order = Long.compare(ray[FIRST + j] * other[START], other[FIRST + j] * ray[START]);
        return high ? order > 0 : order < 0;
    }

    /**
     * The best points are the mixtures of best edge points, and from there on
     * along the directions of worth 0; one comparison finds both, since a
     * direction has 0 at START.
     */
    private boolean isSharpInBest(int i) {
        long[] best = bestRay();
        long above = sheet.worth(best);
        for (int g = 0; g < cone.count; g++) {
            long[] ray = cone.rays[g];
            boolean isBest = ray[END] == 0 && sheet.worth(ray) * best[START] == above * ray[START];
            if (isBest && sheet.excess(i, ray) != 0) {
                return false;
            }
        }
        return true;
    }

    /**
     * Writes the rays of the corners into bends and answers how many they are.
     * V is the upper edge of all edge points drawn at (t, worth), so the walk
     * goes from the first of them always by the steepest way up.
     */
    private int traceBends() {
        cone.collect(sheet, sheet.allRows());
        if (canRise()) {
            return 0;
        }
        int count = 0;
        int at = earliestRay();
        while (count < MOST_RAYS && at != NONE) {
            bends[count] = at;
            count++;
            at = followingRay(at);
        }
        return count;
    }

    private int earliestRay() {
        int found = NONE;
        for (int g = 0; g < cone.count; g++) {
            if (!isDirection(cone.rays[g]) && (found == NONE || isEarlier(cone.rays[g], cone.rays[found]))) {
                found = g;
            }
        }
        return found;
    }

    private boolean isEarlier(long[] ray, long[] other) {
        int order = compareTimes(ray, other);
        if (order != 0) {
            return order < 0;
        }
        long below = ray[START] + ray[END];
        long otherBelow = other[START] + other[END];
        return sheet.worth(ray) * otherBelow > sheet.worth(other) * below;
    }

    private int followingRay(int at) {
        long[] from = cone.rays[at];
        int found = NONE;
        for (int g = 0; g < cone.count; g++) {
            long[] ray = cone.rays[g];
            boolean isLater = !isDirection(ray) && compareTimes(ray, from) > 0;
            if (isLater && (found == NONE || isSteeper(from, ray, cone.rays[found]))) {
                found = g;
            }
        }
        return found;
    }

    /** Of equally steep ways the longer one is taken: V does not bend between. */
    private boolean isSteeper(long[] from, long[] ray, long[] other) {
        long lift = liftAbove(from, other, ray);
        if (lift != 0) {
            return lift > 0;
        }
        return compareTimes(ray, other) > 0;
    }

    /** Compares w / (u + w), for which w / u will do. */
    private static int compareTimes(long[] ray, long[] other) {
        return Long.compare(ray[END] * other[START], other[END] * ray[START]);
    }

    /** Above 0 when p lies above the line through from and q; both are later than from. */
    private long liftAbove(long[] from, long[] q, long[] p) {
        return sheet.worth(p) * (from[START] * q[END] - from[END] * q[START])
                - sheet.worth(q) * (from[START] * p[END] - from[END] * p[START])
                + sheet.worth(from) * (q[START] * p[END] - q[END] * p[START]);
    }

    private static long partOf(long above, long below, int what) {
        long divisor = commonDivisor(Math.abs(above), below);
        return what == 0 ? above / divisor : below / divisor;
    }

    /** At least 1, so that it may divide. */
    private static long commonDivisor(long p, long q) {
        long greater = p;
        long less = q;
        for (int step = 0; step < MOST_STEPS && less != 0; step++) {
            long rest = greater % less;
            greater = less;
            less = rest;
        }
        return Math.max(greater, 1);
    }

    /** The numbers of a program, the rows' numbers as a ray needs them. */
    private static final class Sheet {
        int variables;
        int rows;
        private final long[][] entries;
        private final int[] senses;
        private final int[] rights;
        private final int[] drifts;
        private final int[] wants;

        Sheet() {
            variables = 1;
            rows = 0;
            entries = new long[MOST_ROWS][MOST_COLUMNS];
            senses = new int[MOST_ROWS];
            rights = new int[MOST_ROWS];
            drifts = new int[MOST_ROWS];
            wants = new int[MOST_VARIABLES];
        }

        void clear(int n, int m) {
            variables = n;
            rows = m;
            for (int i = 0; i < MOST_ROWS; i++) {
                senses[i] = AT_MOST;
                rights[i] = 0;
                drifts[i] = 0;
                for (int column = 0; column < MOST_COLUMNS; column++) {
                    entries[i][column] = 0;
                }
            }
            for (int j = 0; j < MOST_VARIABLES; j++) {
                wants[j] = 0;
            }
        }

        void setFactor(int i, int j, int v) {
            entries[i][FIRST + j] = v;
        }

        void setRow(int i, int sense, int right) {
            senses[i] = sense;
            rights[i] = right;
            enterRight(i);
        }

        void setDrift(int i, int v) {
            drifts[i] = v;
            enterRight(i);
        }

        void setWant(int j, int v) {
            wants[j] = v;
        }

        private void enterRight(int i) {
            entries[i][START] = -rights[i];
            entries[i][END] = -rights[i] - drifts[i];
        }

        int columns() {
            return FIRST + variables;
        }

        /** The mask with a bit for every row. */
        int allRows() {
            return (1 << rows) - 1;
        }

        long entry(int i, int column) {
            return entries[i][column];
        }

        /** How far the sum of row i is above its right side, times u + w. */
        long excess(int i, long[] ray) {
            long sum = 0;
            for (int column = 0; column < MOST_COLUMNS; column++) {
                sum += entries[i][column] * ray[column];
            }
            return sum;
        }

        /** The worth of the ray's point, times u + w. */
        long worth(long[] ray) {
            long sum = 0;
            for (int j = 0; j < variables; j++) {
                sum += wants[j] * ray[FIRST + j];
            }
            return sum;
        }

        /** Whether the rows of the mask hold. */
        boolean holds(long[] ray, int mask) {
            for (int i = 0; i < rows; i++) {
                if ((mask >> i & 1) == 1 && !fits(excess(i, ray), senses[i])) {
                    return false;
                }
            }
            return true;
        }

        private static boolean fits(long excess, int sense) {
            if (sense == AT_MOST) {
                return excess <= 0;
            }
            if (sense == EXACTLY) {
                return excess == 0;
            }
            return excess >= 0;
        }
    }

    /** The edge rays of a sheet, or of some of its rows. */
    private static final class Cone {
        final long[][] rays;
        int count;
        /** The mask of the rows that the rays were found for, or NONE. */
        private int collected;
        private final long[][] grid;
        private final int[] places;
        private final long[] parts;

        Cone() {
            rays = new long[MOST_RAYS][MOST_COLUMNS];
            count = 0;
            collected = NONE;
            grid = new long[MOST_ROWS][MOST_PLACES];
            places = new int[MOST_PLACES];
            parts = new long[MOST_PLACES];
        }

        void forget() {
            collected = NONE;
        }

        void collect(Sheet sheet, int mask) {
            if (collected == mask) {
                return;
            }
            count = 0;
            for (int support = 1; support < 1 << sheet.columns(); support++) {
                int size = Integer.bitCount(support);
                for (int sharp = 0; sharp < 1 << sheet.rows; sharp++) {
                    if ((sharp & ~mask) == 0 && Integer.bitCount(sharp) + 1 == size) {
                        tryRay(sheet, support, sharp, mask);
                    }
                }
            }
            collected = mask;
        }

        /**
         * Keeps the ray that is above 0 in just the columns of the support and
         * in which the sharp rows are sharp, if there is one and no second one
         * beside it, and if all rows of the mask hold in it.
         */
        private void tryRay(Sheet sheet, int support, int sharp, int mask) {
            int size = placeColumns(support);
            fillGrid(sheet, sharp, size);
            if (count >= MOST_RAYS || !findParts(size)) {
                return;
            }
            long[] ray = rays[count];
            for (int column = 0; column < MOST_COLUMNS; column++) {
                ray[column] = 0;
            }
            for (int p = 0; p < size; p++) {
                ray[places[p]] = parts[p];
            }
            if (sheet.holds(ray, mask)) {
                count++;
            }
        }

        private int placeColumns(int support) {
            int size = 0;
            for (int column = 0; column < MOST_COLUMNS; column++) {
                if ((support >> column & 1) == 1 && size < MOST_PLACES) {
                    places[size] = column;
                    size++;
                }
            }
            return size;
        }

        /**
         * A line that no sharp row fills says that a place which has no column
         * is 0, so that one rule serves for every number of sharp rows.
         */
        private void fillGrid(Sheet sheet, int sharp, int size) {
            int line = 0;
            for (int i = 0; i < sheet.rows; i++) {
                if ((sharp >> i & 1) == 1) {
                    for (int p = 0; p < MOST_PLACES; p++) {
                        grid[line][p] = p < size ? sheet.entry(i, places[p]) : 0;
                    }
                    line++;
                }
            }
            for (int rest = line; rest < MOST_ROWS; rest++) {
                for (int p = 0; p < MOST_PLACES; p++) {
                    grid[rest][p] = p == rest + 1 ? 1 : 0;
                }
            }
        }

        /** Whether the parts, all turned round if need be, are above 0. */
        private boolean findParts(int size) {
            long sign = cofactor(0) < 0 ? -1 : 1;
            for (int p = 0; p < size; p++) {
                parts[p] = sign * cofactor(p);
                if (parts[p] <= 0) {
                    return false;
                }
            }
            return true;
        }

        /** By Cramer's rule these four numbers give 0 in each line of the grid. */
        private long cofactor(int gap) {
            int p = gap > 0 ? 0 : 1;
            int q = gap > 1 ? 1 : 2;
            int r = gap > 2 ? 2 : 3;
            long[] top = grid[0];
            long[] middle = grid[1];
            long[] low = grid[2];
            long determinant = top[p] * (middle[q] * low[r] - middle[r] * low[q])
                    - top[q] * (middle[p] * low[r] - middle[r] * low[p])
                    + top[r] * (middle[p] * low[q] - middle[q] * low[p]);
            return gap % 2 == 0 ? determinant : -determinant;
        }
    }
}
