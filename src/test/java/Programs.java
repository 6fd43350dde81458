/** Programs that several tests ask. */
final class Programs {
    private Programs() {
    }

    /** x(0) is at most 1 and at least 2. */
    static RationalProgram infeasible() {
        RationalProgram x = Ask.wanting(2, 1);
        Ask.setRow(x, 0, 0, 1, 1);
        Ask.setRow(x, 1, 2, 2, 1);
        return x;
    }

    /** x(0) - x(1) is at most 1, and both are wanted. */
    static RationalProgram unbounded() {
        RationalProgram x = Ask.wanting(1, 1, 1);
        Ask.setRow(x, 0, 0, 1, 1, -1);
        return x;
    }

    /** The best points lie between (0, 4) and (8/3, 4/3). */
    static RationalProgram optimal() {
        RationalProgram x = Ask.wanting(2, 1, 1);
        Ask.setRow(x, 0, 0, 4, 1, 1);
        Ask.setRow(x, 1, 0, 4, 2, -1);
        return x;
    }

    /** All numbers 0, as begin leaves them. */
    static RationalProgram zeros(int n, int m) {
        RationalProgram x = Numbers.full().make();
        x.begin(n, m);
        return x;
    }

    /** Without rows there is none. */
    static RationalProgram infeasible(int n, int m) {
        RationalProgram x = zeros(n, m);
        x.row(m - 1, 2, 1);
        return x;
    }

    static RationalProgram unbounded(int n, int m) {
        RationalProgram x = zeros(n, m);
        x.want(n - 1, 1);
        return x;
    }

    /** Four variables and three rows; each line has the factors, the sense, the right side and the drift. */
    static RationalProgram full(int[] wants, int[]... lines) {
        RationalProgram x = Ask.wanting(3, wants);
        for (int i = 0; i < 3; i++) {
            for (int j = 0; j < 4; j++) {
                x.coefficient(i, j, lines[i][j]);
            }
            x.row(i, lines[i][4], lines[i][5]);
            x.drift(i, lines[i][6]);
        }
        return x;
    }

    /** The greatest worth that was found by a long search; the model answers the same. */
    static RationalProgram greatestWorth() {
        return full(new int[] {9, 9, 4, 9}, new int[] {9, -8, 1, -9, 2, -50, -2},
                new int[] {-9, 9, 4, -8, 2, -50, 8}, new int[] {7, 9, 9, -9, 0, 50, 5});
    }

    /** The least worth that was found. */
    static RationalProgram leastWorth() {
        return full(new int[] {-9, -9, -9, -7}, new int[] {8, 9, -9, -6, 2, 50, 9},
                new int[] {-9, 9, -7, 8, 1, -50, -9}, new int[] {-9, 8, 9, 4, 1, 50, 9});
    }

    /** The greatest number below a worth that was found. */
    static RationalProgram finestWorth() {
        return full(new int[] {9, -4, 8, 7}, new int[] {-8, 0, 9, 9, 1, 28, 3},
                new int[] {9, -5, 9, -8, 1, 20, -1}, new int[] {9, 9, -9, 9, 0, 43, -8});
    }

    /** The greatest x(0) that was found to be the greatest there is. */
    static RationalProgram farthest() {
        return full(new int[] {-2, -4, 2, 3}, new int[] {-7, 9, 9, 4, 1, -50, 0},
                new int[] {-4, 7, -9, -4, 1, -50, -4}, new int[] {-5, 9, -8, 9, 1, 50, -5});
    }

    /** The greatest number below a t that was found. */
    static RationalProgram finestTime() {
        return full(new int[] {5, 2, -7, 6}, new int[] {9, 1, -8, -8, 2, -4, 9},
                new int[] {7, 6, 0, -9, 0, -4, -9}, new int[] {9, 0, -8, 9, 1, 49, -9});
    }

    /** The most corners that were found. */
    static RationalProgram mostCorners() {
        return full(new int[] {2, 2, -9, -4}, new int[] {-4, -8, -9, 7, 0, 1, -2},
                new int[] {8, 4, 7, -5, 0, -3, 7}, new int[] {-4, -5, 2, 0, 2, -3, 5});
    }

    /** All numbers as far out as they may be. */
    static RationalProgram fullInfeasible() {
        return full(new int[] {9, 9, 9, 9}, new int[] {9, 9, 9, 9, 0, 49, 9},
                new int[] {9, 9, 9, 9, 2, 50, -9}, new int[] {-9, -9, -9, -9, 2, -50, 9});
    }

    static RationalProgram fullUnbounded() {
        return full(new int[] {9, 9, 9, 9}, new int[] {9, 9, 9, 9, 2, 50, 9},
                new int[] {-9, -9, -9, -9, 0, -50, -9}, new int[] {9, -9, 9, -9, 1, 50, 9});
    }
}
