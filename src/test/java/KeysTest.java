/** Promises 14 to 19: key, cell, tile, beside, common, leaps. */
public final class KeysTest {
    /** The keys of a world of D = 2, row by row from y = 0, worked out by hand from the document. */
    private static final int[][] KEYS = {
        {0, 1, 4, 5, 2, 3, 6, 7, 8, 9, 12, 13, 10, 11, 14, 15},
        {0, 1, 14, 15, 3, 2, 13, 12, 4, 7, 8, 11, 5, 6, 9, 10}};

    public static void main(String[] args) {
        for (int c = 0; c < 2; c++) {
            keysByHand(c);
            for (int d = 1; d <= 6; d++) {
                Many q = new Many("w" + d + "," + c + ";");
                everyKeyOnce(q, d);
                tiles(q, d);
                beside(q, d);
                leaps(q, d, c);
            }
        }
        tileCounts();
        wrongNumbers();
        common();
        Check.end();
    }

    private static void keysByHand(int c) {
        Many q = new Many("w2," + c + ";");
        for (int i = 0; i < 16; i++) {
            Check.due("key by hand", q.next().key(i % 4, i / 4), KEYS[c][i]);
        }
    }

    private static void everyKeyOnce(Many q, int d) {
        int side = 1 << d;
        boolean[] seen = new boolean[side * side];
        for (int i = 0; i < side * side; i++) {
            int k = q.next().key(i % side, i / side);
            Check.due("key in range", k >= 0 && k < seen.length && !seen[k] ? 1 : 0, 1);
            if (k >= 0 && k < seen.length) {
                seen[k] = true;
            }
            Check.due("cell x", q.next().cell(k, 0), i % side);
            Check.due("cell y", q.next().cell(k, 1), i / side);
        }
        Check.due("key beyond x", q.next().key(side, 0), QuadKeys.BAD);
        Check.due("key beyond y", q.next().key(0, side), QuadKeys.BAD);
        Check.due("cell beyond", q.next().cell(side * side, 0), QuadKeys.BAD);
    }

    /** A tile's corner, side and keys must be those of the cells between its first and last key. */
    private static void tiles(Many q, int d) {
        for (int l = 0; l <= d; l++) {
            int size = 1 << (2 * (d - l));
            for (int k = 0; k < 1 << (2 * l); k++) {
                int x = 64;
                int y = 64;
                int far = -1;
                for (int i = k * size; i < (k + 1) * size; i++) {
                    x = Math.min(x, q.next().cell(i, 0));
                    y = Math.min(y, q.next().cell(i, 1));
                    far = Math.max(far, q.next().cell(i, 0));
                }
                Check.due("tile x", q.next().tile(l, k, 0), x);
                Check.due("tile y", q.next().tile(l, k, 1), y);
                Check.due("tile side", q.next().tile(l, k, 2), far - x + 1);
                Check.due("tile first", q.next().tile(l, k, 3), k * size);
                Check.due("tile last", q.next().tile(l, k, 4), (k + 1) * size - 1);
            }
            Check.due("tile beyond", q.next().tile(l, 1 << (2 * l), 0), QuadKeys.BAD);
        }
        Check.due("tile too deep", q.next().tile(d + 1, 0, 0), QuadKeys.BAD);
    }

    private static void beside(Many q, int d) {
        int side = 1 << d;
        for (int l = 0; l <= d; l++) {
            int s = side >> l;
            for (int k = 0; k < 1 << (2 * l); k++) {
                for (int i = 0; i < 9; i++) {
                    int dx = i % 3 - 1;
                    int dy = i / 3 - 1;
                    int x = q.next().tile(l, k, 0) + dx * s;
                    int y = q.next().tile(l, k, 1) + dy * s;
                    boolean there = x >= 0 && x < side && y >= 0 && y < side;
                    int want = i == 4 ? QuadKeys.BAD : there ? q.next().key(x, y) / (s * s) : QuadKeys.NONE;
                    Check.due("beside", q.next().beside(l, k, dx, dy), want);
                }
            }
        }
    }

    private static void leaps(Many q, int d, int c) {
        int sum = 0;
        for (int k = 0; k + 1 < 1 << (2 * d); k++) {
            int dx = q.next().cell(k, 0) - q.next().cell(k + 1, 0);
            int dy = q.next().cell(k, 1) - q.next().cell(k + 1, 1);
            sum += Math.abs(dx) + Math.abs(dy) == 1 ? 0 : 1;
        }
        Check.due("leaps", q.next().leaps(), sum);
        Check.due("leaps known", q.next().leaps(), c == 1 ? 0 : (1L << (2 * d - 1)) - 1);
    }

    private static void tileCounts() {
        QuadKeys q = Check.laid("w3,1;+b1,1,4,4;p0,0;p1,1;p1,1;p7,7;p4,0;");
        int[] shape = {9, 3, 1, 3};
        int[] points = {3, 0, 1, 1};
        for (int k = 0; k < 4; k++) {
            Check.due("cells of the shape in a tile", q.tile(1, k, 5), shape[k]);
            Check.due("points in a tile", q.tile(1, k, 6), points[k]);
        }
        Check.due("all cells", q.tile(0, 0, 5), 16);
        Check.due("all points", q.tile(0, 0, 6), 5);
        Check.due("one cell", q.tile(3, q.key(1, 1), 5), 1);
        Check.due("two points", q.tile(3, q.key(1, 1), 6), 2);
        q.curve(0);
        Check.due("by the other curve", q.tile(1, 1, 5), 3);
        Check.due("by the other curve", q.tile(1, 1, 6), 1);
        Check.due("by the other curve", q.tile(1, 3, 5), 1);
        q.drop(0);
        Check.due("no shape", q.tile(0, 0, 5), 0);
        q.lift(0);
        Check.due("a point less", q.tile(0, 0, 6), 4);
    }

    private static void wrongNumbers() {
        QuadKeys q = new QuadKeys();
        int[] wrong = {-1, 16, Integer.MIN_VALUE, Integer.MAX_VALUE};
        for (int n : wrong) {
            Check.due("key", q.key(n, 0), QuadKeys.BAD);
            Check.due("key", q.key(0, n), QuadKeys.BAD);
            Check.due("cell what", q.cell(0, n), QuadKeys.BAD);
            Check.due("tile l", q.tile(n, 0, 0), QuadKeys.BAD);
            Check.due("tile k", q.tile(2, n, 0), QuadKeys.BAD);
            Check.due("tile what", q.tile(2, 0, n), QuadKeys.BAD);
            Check.due("beside l", q.beside(n, 0, 1, 1), QuadKeys.BAD);
            Check.due("beside k", q.beside(2, n, 1, 1), QuadKeys.BAD);
            Check.due("beside dx", q.beside(2, 5, n == -1 ? -2 : n, 1), QuadKeys.BAD);
            Check.due("beside dy", q.beside(2, 5, 1, n == -1 ? -2 : n), QuadKeys.BAD);
            Check.due("common x", q.common(n, 0, 0, 0), QuadKeys.BAD);
            Check.due("common y", q.common(0, n, 0, 0), QuadKeys.BAD);
            Check.due("common v", q.common(0, 0, n, 0), QuadKeys.BAD);
            Check.due("common w", q.common(0, 0, 0, n), QuadKeys.BAD);
        }
        Check.due("cell k", q.cell(-1, 0), QuadKeys.BAD);
        Check.due("cell k", q.cell(256, 1), QuadKeys.BAD);
        Check.due("cell what", q.cell(0, 2), QuadKeys.BAD);
        Check.due("tile what", q.tile(0, 0, 7), QuadKeys.BAD);
        Check.due("beside dx", q.beside(2, 0, 2, 0), QuadKeys.BAD);
        Check.due("BAD ahead of NONE", q.beside(2, 0, -1, 2), QuadKeys.BAD);
        Check.due("tile k", q.tile(5, 0, 0), QuadKeys.BAD);
    }

    private static void common() {
        Many q = new Many("w3,1;");
        for (int a = 0; a < 64; a++) {
            for (int b = 0; b < 64; b++) {
                int level = 0;
                for (int l = 1; l <= 3; l++) {
                    int size = 1 << (2 * (3 - l));
                    level = q.next().key(a % 8, a / 8) / size == q.next().key(b % 8, b / 8) / size ? l : level;
                }
                Check.due("common", q.next().common(a % 8, a / 8, b % 8, b / 8), level);
            }
        }
    }
}
