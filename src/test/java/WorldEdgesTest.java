/** Where the world, its cells, keys and tiles end: each sentence of the terms, and promises 14 to 19. */
public final class WorldEdgesTest {
    private static final int[] FAR = {Integer.MIN_VALUE, Integer.MIN_VALUE + 1, Integer.MAX_VALUE - 1,
        Integer.MAX_VALUE};

    public static void main(String[] args) {
        worldHasDepthOneToSix();
        for (int c = 0; c < 2; c++) {
            for (int d = 1; d <= 6; d++) {
                String text = "w" + d + "," + c + ";";
                sideIsTwoToTheDepth(text, d);
                cellsEndAtTheSide(text, 1 << d);
                keysEndAtFourToTheDepth(text, d, c);
                quartersMeetAtTheHalf(text, d, c);
                cellOfAKey(text, d);
                tileLevelsEnd(text, d);
                tileKeysEnd(text, d);
                tileOfTheWholeAndOfACell(text, d);
                besideEndsWithTheWorld(text, d);
                besideTakesOneStep(text, d);
                commonOfOneCellAndOfFarOnes(text, d);
                leapsLeaveOutTheLastKey(text, d, c);
            }
        }
        turnsOfCurveOne();
        tileWhatEnds();
        tileCountsEmptyAndFull();
        Check.end();
    }

    /** "The WORLD has D (1 to 6)". */
    private static void worldHasDepthOneToSix() {
        for (int d = 0; d <= 999; d += d < 12 ? 1 : 329) {
            QuadKeys q = Check.tell(new QuadKeys(), "w" + d + ",0;");
            boolean told = d >= 1 && d <= 6;
            Check.due("fault of D " + d, q.fault(), told ? QuadKeys.NONE : 0);
            Check.due("lay of D " + d, q.lay(), told ? 1L << d : QuadKeys.NO);
            Check.due("D of D " + d, q.count(0), told ? d : 4);
        }
    }

    /** "its SIDE is 2 to the D". */
    private static void sideIsTwoToTheDepth(String text, int d) {
        int[] sides = {1, 2, 4, 8, 16, 32, 64};
        QuadKeys q = Check.tell(new QuadKeys(), text);
        Check.due(text + " lay", q.lay(), sides[d]);
        Check.due(text + " side of the world's tile", q.tile(0, 0, 2), sides[d]);
    }

    /** "CELLS x, y (0 to less than SIDE each)": for every call that takes a cell, each number of it. */
    private static void cellsEndAtTheSide(String text, int side) {
        int[] beyond = {-1, side, -side, side + 1, FAR[0], FAR[1], FAR[2], FAR[3]};
        for (int last = 0; last < side; last += side - 1) {
            QuadKeys q = Check.laid(text);
            Check.due(text + " key", q.key(last, last) >= 0 ? 1 : 0, 1);
            Check.due(text + " in", q.in(last, last), 0);
            Check.due(text + " nearest", q.nearest(last, last), QuadKeys.NONE);
            Check.due(text + " point", q.point(last, last), 0);
            Check.due(text + " box", q.box(1, last, last, last, last), 1);
            Check.due(text + " disc", q.disc(1, last, last, 0), 2);
            Check.due(text + " common", q.common(last, last, last, last), q.count(0));
            for (int n : beyond) {
                noCell(q, text + " " + n + ", " + last, n, last);
                noCell(q, text + " " + last + ", " + n, last, n);
            }
            Check.due(text + " parts", q.count(4), 2);
            Check.due(text + " points", q.count(5), 1);
        }
    }

    private static void noCell(QuadKeys q, String of, int x, int y) {
        Check.due(of + ": key", q.key(x, y), QuadKeys.BAD);
        Check.due(of + ": in", q.in(x, y), QuadKeys.BAD);
        Check.due(of + ": nearest", q.nearest(x, y), QuadKeys.BAD);
        Check.due(of + ": point", q.point(x, y), QuadKeys.BAD);
        Check.due(of + ": box from", q.box(1, x, y, 1, 1), QuadKeys.BAD);
        Check.due(of + ": box to", q.box(0, 0, 0, x, y), QuadKeys.BAD);
        Check.due(of + ": disc", q.disc(1, x, y, 1), QuadKeys.BAD);
        Check.due(of + ": common", q.common(x, y, 0, 0), QuadKeys.BAD);
        Check.due(of + ": common", q.common(0, 0, x, y), QuadKeys.BAD);
    }

    /** "KEY of a CELL, 0 to 4 to the D less 1": the corners have figures that are all alike. */
    private static void keysEndAtFourToTheDepth(String text, int d, int c) {
        QuadKeys q = Check.laid(text);
        int far = (1 << d) - 1;
        int ones = ((1 << (2 * d)) - 1) / 3;
        Check.due(text + " key of 0, 0", q.key(0, 0), 0);
        Check.due(text + " key of far, 0", q.key(far, 0), c == 0 ? ones : 3 * ones);
        Check.due(text + " key of 0, far", q.key(0, far), c == 0 ? 2 * ones : ones);
        Check.due(text + " key of far, far", q.key(far, far), c == 0 ? 3 * ones : 2 * ones);
    }

    /** "u (1, if x is in the upper half, else 0), and v (likewise by y)". */
    private static void quartersMeetAtTheHalf(String text, int d, int c) {
        QuadKeys q = Check.laid(text);
        int half = 1 << (d - 1);
        int size = half * half;
        int[] figures = c == 0 ? new int[] {0, 1, 2, 3} : new int[] {0, 3, 1, 2};
        for (int i = 0; i < 4; i++) {
            int u = i % 2;
            int v = i / 2;
            Check.due(text + " at the middle", q.key(half - 1 + u, half - 1 + v) / size, figures[i]);
            Check.due(text + " at the corner", q.key(u * (2 * half - 1), v * (2 * half - 1)) / size, figures[i]);
        }
    }

    /** "in quarter 0 x and y change places; in quarter 3 .. x is s - 1 - y and y is s - 1 - x". */
    private static void turnsOfCurveOne() {
        QuadKeys least = Check.laid("w1,1;");
        int[] first = {0, 3, 1, 2};
        for (int i = 0; i < 4; i++) {
            Check.due("a side of 1 has no turn", least.key(i % 2, i / 2), first[i]);
        }
        QuadKeys q = Check.laid("w3,1;");
        int[][] keys = {{0, 3, 4, 5, 58, 59, 60, 63}, {1, 2, 7, 6, 57, 56, 61, 62},
            {14, 13, 8, 9, 54, 55, 50, 49}, {15, 12, 11, 10, 53, 52, 51, 48},
            {16, 17, 30, 31, 32, 33, 46, 47}, {19, 18, 29, 28, 35, 34, 45, 44},
            {20, 23, 24, 27, 36, 39, 40, 43}, {21, 22, 25, 26, 37, 38, 41, 42}};
        for (int i = 0; i < 64; i++) {
            Check.due("key of " + i % 8 + ", " + i / 8, q.key(i % 8, i / 8), keys[i / 8][i % 8]);
        }
    }

    /** cell: "The CELL of a KEY: x (what = 0), y (1). BAD." */
    private static void cellOfAKey(String text, int d) {
        QuadKeys q = Check.laid(text);
        int keys = 1 << (2 * d);
        for (int what = 0; what < 2; what++) {
            Check.due(text + " first", q.cell(0, what), 0);
            Check.due(text + " last", q.key(q.cell(keys - 1, 0), q.cell(keys - 1, 1)), keys - 1);
            Check.due(text + " too low", q.cell(-1, what), QuadKeys.BAD);
            Check.due(text + " too high", q.cell(keys, what), QuadKeys.BAD);
            for (int n : FAR) {
                Check.due(text + " far", q.cell(n, what), QuadKeys.BAD);
            }
        }
        for (int what : new int[] {-1, 2, 3, FAR[0], FAR[3]}) {
            Check.due(text + " what " + what, q.cell(keys - 1, what), QuadKeys.BAD);
        }
    }

    /** "TILE of level l (0 to D)". */
    private static void tileLevelsEnd(String text, int d) {
        QuadKeys q = Check.laid(text);
        for (int l : new int[] {-1, d + 1, 7, 16, 31, 32, FAR[0], FAR[3]}) {
            Check.due(text + " tile of level " + l, q.tile(l, 0, 2), QuadKeys.BAD);
            Check.due(text + " beside of level " + l, q.beside(l, 0, 1, 0), QuadKeys.BAD);
        }
        Check.due(text + " side at level 0", q.tile(0, 0, 2), 1L << d);
        Check.due(text + " side at level D", q.tile(d, 0, 2), 1);
    }

    /** "and key k (0 to 4 to the l less 1)". */
    private static void tileKeysEnd(String text, int d) {
        for (int l = 0; l <= d; l++) {
            QuadKeys q = Check.laid(text);
            int tiles = 1 << (2 * l);
            Check.due(text + " first key of the first", q.tile(l, 0, 3), 0);
            Check.due(text + " last key of the last", q.tile(l, tiles - 1, 4), (1 << (2 * d)) - 1);
            for (int what = 0; what <= 6; what++) {
                Check.due(text + " below", q.tile(l, -1, what), QuadKeys.BAD);
                Check.due(text + " beyond", q.tile(l, tiles, what), QuadKeys.BAD);
                Check.due(text + " far below", q.tile(l, FAR[0], what), QuadKeys.BAD);
                Check.due(text + " far beyond", q.tile(l, FAR[3], what), QuadKeys.BAD);
            }
            Check.due(text + " beside, below", q.beside(l, -1, 0, 1), QuadKeys.BAD);
            Check.due(text + " beside, beyond", q.beside(l, tiles, 0, 1), QuadKeys.BAD);
            Check.due(text + " beside, far", q.beside(l, FAR[3], 0, 1), QuadKeys.BAD);
        }
    }

    /** tile: the level 0 has one tile, the world; a tile of level D is a cell. */
    private static void tileOfTheWholeAndOfACell(String text, int d) {
        QuadKeys q = Check.laid(text);
        int last = (1 << (2 * d)) - 1;
        int[] whole = {0, 0, 1 << d, 0, last, 0, 0};
        int[] cell = {q.cell(last, 0), q.cell(last, 1), 1, last, last, 0, 0};
        for (int what = 0; what <= 6; what++) {
            Check.due(text + " world's " + what, q.tile(0, 0, what), whole[what]);
            Check.due(text + " cell's " + what, q.tile(d, last, what), cell[what]);
        }
    }

    /** tile: what goes from 0 to 6. */
    private static void tileWhatEnds() {
        QuadKeys q = new QuadKeys();
        for (int what : new int[] {-1, 7, 8, FAR[0], FAR[3]}) {
            Check.due("tile what " + what, q.tile(0, 0, what), QuadKeys.BAD);
            Check.due("tile what " + what, q.tile(4, 255, what), QuadKeys.BAD);
        }
    }

    /** tile: "how many of its CELLS are in THE SHAPE (5), how many POINTS in it (6)", from none to all. */
    private static void tileCountsEmptyAndFull() {
        QuadKeys q = Check.laid("w6,1;");
        Check.due("no shape", q.tile(0, 0, 5), 0);
        Check.due("no point", q.tile(0, 0, 6), 0);
        q.box(1, 0, 0, 63, 63);
        for (int i = 0; i < 40; i++) {
            q.point(63, 0);
        }
        for (int l = 0; l <= 6; l++) {
            int last = (1 << (2 * l)) - 1;
            Check.due("all cells of level " + l, q.tile(l, last, 5), 1L << (2 * (6 - l)));
            Check.due("all points of level " + l, q.tile(l, last, 6), 40);
            if (l > 0) {
                Check.due("no point in the one ahead", q.tile(l, last - 1, 6), 0);
            }
        }
        q.disc(0, 63, 0, 0);
        Check.due("a cell less", q.tile(0, 0, 5), 4095);
        Check.due("none of the one cell", q.tile(6, 4095, 5), 0);
        Check.due("points are no cells", q.tile(6, 4095, 6), 40);
    }

    /** beside: "NONE: there the WORLD ends", on all four sides, by the corner too; it does not go round. */
    private static void besideEndsWithTheWorld(String text, int d) {
        for (int l = 0; l <= d; l++) {
            QuadKeys q = Check.laid(text);
            int s = 1 << (d - l);
            int far = (1 << d) - 1;
            for (int corner = 0; corner < 4; corner++) {
                int x = corner % 2 * far;
                int y = corner / 2 * far;
                int k = q.key(x, y) / (s * s);
                for (int step = 0; step < 9; step++) {
                    int dx = step % 3 - 1;
                    int dy = step / 3 - 1;
                    boolean out = x + dx * s < 0 || x + dx * s > far || y + dy * s < 0 || y + dy * s > far;
                    int want = step == 4 ? QuadKeys.BAD
                            : out ? QuadKeys.NONE : q.key(x + dx * s, y + dy * s) / (s * s);
                    Check.due(text + " beside " + l + ", " + k + ", " + dx + ", " + dy, q.beside(l, k, dx, dy), want);
                }
            }
        }
    }

    /** beside: "(-1, 0, 1 each, not both 0)"; BAD goes ahead of NONE. */
    private static void besideTakesOneStep(String text, int d) {
        QuadKeys q = Check.laid(text);
        for (int n : new int[] {-2, 2, 3, FAR[0], FAR[1], FAR[2], FAR[3]}) {
            for (int step = -1; step <= 1; step++) {
                Check.due(text + " dx " + n, q.beside(d, 0, n, step), QuadKeys.BAD);
                Check.due(text + " dy " + n, q.beside(d, 0, step, n), QuadKeys.BAD);
                Check.due(text + " dx of the world " + n, q.beside(0, 0, n, step), QuadKeys.BAD);
            }
        }
        Check.due(text + " both 0 of the world", q.beside(0, 0, 0, 0), QuadKeys.BAD);
        Check.due(text + " both 0 of a cell", q.beside(d, 0, 0, 0), QuadKeys.BAD);
    }

    /** common: "The level of the smallest TILE in which two CELLS are", from one cell to the whole world. */
    private static void commonOfOneCellAndOfFarOnes(String text, int d) {
        QuadKeys q = Check.laid(text);
        int far = (1 << d) - 1;
        int half = 1 << (d - 1);
        Check.due(text + " a cell with itself", q.common(far, 0, far, 0), d);
        Check.due(text + " corners", q.common(0, 0, far, far), 0);
        Check.due(text + " over the middle by x", q.common(half - 1, 0, half, 0), 0);
        Check.due(text + " over the middle by y", q.common(far, half, far, half - 1), 0);
        Check.due(text + " of four", q.common(far, far, far - 1, far - 1), d - 1);
        for (int l = 0; l < d; l++) {
            int s = 1 << (d - l);
            Check.due(text + " from end to end of level " + l, q.common(0, 0, s - 1, 0), l);
            Check.due(text + " from end to end of level " + l, q.common(far, far, far, far - s + 1), l);
        }
    }

    /** leaps: "of all CELLS but the last KEY's": there is none behind the last one, not the first either. */
    private static void leapsLeaveOutTheLastKey(String text, int d, int c) {
        int[] leaps = {0, 1, 7, 31, 127, 511, 2047};
        Check.due(text + " leaps", Check.laid(text).leaps(), c == 0 ? leaps[d] : 0);
    }
}
