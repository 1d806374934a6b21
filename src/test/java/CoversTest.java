import java.util.ArrayList;
import java.util.Arrays;
import java.util.List;
import java.util.Random;

/** Promises 20 to 25: in, cover, rest, best, span, joined. */
public final class CoversTest {
    public static void main(String[] args) {
        in();
        coverByHand();
        levelsOfCovers();
        emptyShape();
        wholeWorld();
        checkerboard();
        spansByHand();
        moreSpansThanJoined();
        farQuarters();
        firstAsked();
        wrongNumbers();
        bestByHand();
        Random random = new Random(20261118);
        List<int[]> sets = allSets();
        for (int i = 0; i < 150; i++) {
            bestByAllSets(random, sets);
        }
        Check.end();
    }

    private static void in() {
        QuadKeys q = Check.laid("w3,0;+b0,0,3,3;-d1,1,1;+b1,1,1,1;-b3,3,3,3;");
        String[] rows = {"1011....", "0101....", "1011....", "1110...."};
        for (int y = 0; y < 8; y++) {
            for (int x = 0; x < 8; x++) {
                int want = y < 4 && rows[y].charAt(x) == '1' ? 1 : 0;
                Check.due("in " + x + ", " + y, q.in(x, y), want);
            }
        }
        int[] wrong = {-1, 8, Integer.MIN_VALUE, Integer.MAX_VALUE};
        for (int n : wrong) {
            Check.due("in x " + n, q.in(n, 0), QuadKeys.BAD);
            Check.due("in y " + n, q.in(0, n), QuadKeys.BAD);
        }
    }

    private static void coverIs(QuadKeys q, String of, int which, int... levelsAndKeys) {
        int many = levelsAndKeys.length / 2;
        Check.due(of + ": how many", q.cover(which, -1, 0), many);
        Check.due(of + ": how many", q.cover(which, -1, 1), many);
        for (int i = 0; i < many; i++) {
            Check.due(of + ": level of " + i, q.cover(which, i, 0), levelsAndKeys[2 * i]);
            Check.due(of + ": key of " + i, q.cover(which, i, 1), levelsAndKeys[2 * i + 1]);
        }
        Check.due(of + ": not so many", q.cover(which, many, 0), QuadKeys.NONE);
        Check.due(of + ": not so many", q.cover(which, Integer.MAX_VALUE, 1), QuadKeys.NONE);
    }

    private static void coverByHand() {
        QuadKeys q = Check.laid("w2,0;+b0,0,2,1;");
        coverIs(q, "outer", 0, 1, 0, 2, 4, 2, 6);
        coverIs(q, "inner", 1, 1, 0, 2, 4, 2, 6);
        Check.due("rest", q.rest(0), 0);
        Check.due("rest", q.rest(1), 0);
        q.levels(0, 1);
        coverIs(q, "outer to 1", 0, 1, 0, 1, 1);
        coverIs(q, "inner to 1", 1, 1, 0);
        Check.due("rest", q.rest(0), 2);
        Check.due("rest", q.rest(1), 2);
        q.levels(2, 2);
        coverIs(q, "outer of 2", 0, 2, 0, 2, 1, 2, 2, 2, 3, 2, 4, 2, 6);
        q.curve(1);
        coverIs(q, "by curve 1", 0, 2, 0, 2, 1, 2, 2, 2, 3, 2, 13, 2, 14);
        q.levels(0, 2);
        coverIs(q, "by curve 1", 1, 1, 0, 2, 13, 2, 14);
    }

    private static void levelsOfCovers() {
        QuadKeys q = Check.laid("w2,0;+b0,0,3,3;");
        coverIs(q, "the world", 0, 0, 0);
        q.levels(1, 2);
        coverIs(q, "quarters", 0, 1, 0, 1, 1, 1, 2, 1, 3);
        q.levels(1, 1);
        coverIs(q, "quarters", 1, 1, 0, 1, 1, 1, 2, 1, 3);
        q.box(0, 3, 3, 3, 3);
        coverIs(q, "outer of a cut world", 0, 1, 0, 1, 1, 1, 2, 1, 3);
        coverIs(q, "inner of a cut world", 1, 1, 0, 1, 1, 1, 2);
        Check.due("rest", q.rest(0), 1);
        Check.due("rest", q.rest(1), 3);
        q.levels(0, 1);
        coverIs(q, "whole from without", 0, 0, 0);
        q.levels(0, 0);
        coverIs(q, "none from within", 1);
        Check.due("rest of none", q.rest(1), 15);
    }

    private static void emptyShape() {
        QuadKeys q = Check.laid("w3,1;-b0,0,7,7;");
        for (int which = 0; which < 2; which++) {
            coverIs(q, "empty", which);
            Check.due("no span", q.span(which, -1, 0), 0);
            Check.due("no span", q.span(which, 0, 0), QuadKeys.NONE);
            Check.due("nothing to join", q.joined(which, 1), 0);
            Check.due("rest", q.rest(which), 0);
        }
        for (int m = 1; m <= 12; m++) {
            Check.due("best of none", q.best(m), 0);
        }
        q.levels(3, 3);
        Check.due("best of none", q.best(1), 0);
        Check.due("BAD all the same", q.best(13), QuadKeys.BAD);
    }

    private static void wholeWorld() {
        for (int d = 1; d <= 6; d++) {
            QuadKeys q = Check.laid("w" + d + ",1;+d0,0,63;+b0,0,1,1;");
            q.box(1, 0, 0, (1 << d) - 1, (1 << d) - 1);
            int cells = 1 << (2 * d);
            Check.due("cells", q.count(6), cells);
            coverIs(q, "world", 0, 0, 0);
            Check.due("spans", q.span(1, -1, 1), 1);
            Check.due("first", q.span(1, 0, 0), 0);
            Check.due("last", q.span(1, 0, 1), cells - 1);
            Check.due("no second", q.span(1, 1, 1), QuadKeys.NONE);
            q.levels(d, d);
            Check.due("tiles", q.cover(0, -1, 0), cells);
            Check.due("last key", q.cover(0, cells - 1, 1), cells - 1);
            Check.due("beyond", q.cover(0, cells, 1), QuadKeys.NONE);
            Check.due("best", q.best(12), cells <= 12 ? 0 : QuadKeys.NONE);
            Check.due("best", q.best(4), cells <= 4 ? 0 : QuadKeys.NONE);
            Check.due("best", q.best(3), QuadKeys.NONE);
        }
    }

    private static void checkerboard() {
        QuadKeys q = Check.laid("w1,0;+b0,0,0,0;+b1,1,1,1;");
        coverIs(q, "two cells", 0, 1, 0, 1, 3);
        Check.due("spans", q.span(0, -1, 0), 2);
        Check.due("joined", q.joined(0, 1), 2);
        Check.due("joined", q.joined(0, 2), 0);
        q.curve(1);
        Check.due("joined", q.joined(0, 1), 1);
        Check.due("best", q.best(1), 2);
        Check.due("best", q.best(2), 0);
        q.levels(1, 1);
        Check.due("best", q.best(1), QuadKeys.NONE);
        Check.due("best", q.best(2), 0);
    }

    private static void spansByHand() {
        QuadKeys q = Check.laid("w4,0;+b0,0,3,1;+b8,0,9,0;+b5,2,5,2;+b15,15,15,15;");
        int[][] spans = {{0, 7}, {25, 25}, {64, 65}, {255, 255}};
        Check.due("spans", q.span(0, -1, 0), 4);
        Check.due("spans", q.span(0, -1, 1), 4);
        for (int i = 0; i < 4; i++) {
            Check.due("first of " + i, q.span(0, i, 0), spans[i][0]);
            Check.due("last of " + i, q.span(0, i, 1), spans[i][1]);
        }
        Check.due("beyond", q.span(0, 4, 0), QuadKeys.NONE);
        Check.due("joined to 4", q.joined(0, 4), 0);
        Check.due("joined to 3", q.joined(0, 3), 17);
        Check.due("joined to 2", q.joined(0, 2), 55);
        Check.due("joined to 1", q.joined(0, 1), 244);
        Check.due("joined to 99", q.joined(0, 99), 0);
        q.levels(0, 3);
        Check.due("wider spans", q.span(0, 1, 1), 27);
        Check.due("inner spans", q.span(1, -1, 0), 1);
        Check.due("inner span", q.span(1, 0, 1), 7);
    }

    /** Two columns: 128 spans of a key each, 112 gaps of 1 in rows of 7, and 15 wider ones between. */
    private static void moreSpansThanJoined() {
        QuadKeys q = Check.laid("w6,0;+b0,0,0,63;+b2,0,2,63;");
        Check.due("spans", q.span(0, -1, 0), 128);
        int[] goals = {99, 98, 17, 16, 15, 9, 8, 7, 4, 3, 2, 1};
        int[] keys = {29, 30, 111, 112, 129, 231, 248, 329, 572, 909, 1246, 2607};
        for (int i = 0; i < goals.length; i++) {
            Check.due("joined to " + goals[i], q.joined(0, goals[i]), keys[i]);
            Check.due("joined within to " + goals[i], q.joined(1, goals[i]), keys[i]);
        }
    }

    /** Tiles of 64 cells and more that are not the first ones. */
    private static void farQuarters() {
        QuadKeys q = Check.laid("w6,0;+b48,56,63,63;+b63,0,63,0;");
        coverIs(q, "far", 0, 6, 1365, 3, 62, 3, 63);
        Check.due("cells of a quarter", q.tile(1, 3, 5), 128);
        Check.due("cells of a quarter", q.tile(1, 1, 5), 1);
        Check.due("cells of a quarter", q.tile(1, 0, 5), 0);
        Check.due("cells of a quarter's quarter", q.tile(2, 15, 5), 128);
        Check.due("cells of a quarter's quarter", q.tile(2, 14, 5), 0);
        Check.due("cells of a small tile", q.tile(3, 62, 5), 64);
        Check.due("cells of a small tile", q.tile(3, 61, 5), 0);
        int[] best = {4096 - 129, 128, 0};
        for (int m = 1; m <= 3; m++) {
            Check.due("best " + m, q.best(m), best[m - 1]);
        }
    }

    /** Each answer is found also when nothing was asked ahead of it. */
    private static void firstAsked() {
        Check.due("cover", new QuadKeys().cover(1, -1, 0), 44);
        Check.due("span", new QuadKeys().span(0, -1, 0), 17);
        Check.due("joined", new QuadKeys().joined(0, 1), 141);
        Check.due("best", new QuadKeys().best(5), 132);
        Check.due("tile", new QuadKeys().tile(1, 1, 5), 7);
        Check.due("search", new QuadKeys().search(0), 4);
        QuadKeys q = new QuadKeys();
        q.levels(0, 0);
        Check.due("rest", q.rest(0), 176);
        q.levels(0, 3);
        Check.due("rest", q.rest(1), 36);
        Check.due("best", q.best(5), 132);
        q.disc(1, 0, 0, 63);
        Check.due("best behind a part", q.best(5), 0);
    }

    private static void wrongNumbers() {
        QuadKeys q = new QuadKeys();
        int[] wrong = {-1, 2, Integer.MIN_VALUE, Integer.MAX_VALUE};
        for (int n : wrong) {
            Check.due("cover which", q.cover(n, 0, 0), QuadKeys.BAD);
            Check.due("cover what", q.cover(0, 0, n), QuadKeys.BAD);
            Check.due("cover what of all", q.cover(0, -1, n), QuadKeys.BAD);
            Check.due("cover BAD ahead of NONE", q.cover(0, 999, n), QuadKeys.BAD);
            Check.due("span which", q.span(n, 0, 0), QuadKeys.BAD);
            Check.due("span what", q.span(0, 0, n), QuadKeys.BAD);
            Check.due("span what of all", q.span(0, -1, n), QuadKeys.BAD);
            Check.due("span BAD ahead of NONE", q.span(0, 999, n), QuadKeys.BAD);
            Check.due("rest which", q.rest(n), QuadKeys.BAD);
            Check.due("joined which", q.joined(n, 1), QuadKeys.BAD);
        }
        int[] low = {-2, -3, Integer.MIN_VALUE};
        for (int i : low) {
            Check.due("cover i", q.cover(0, i, 0), QuadKeys.BAD);
            Check.due("span i", q.span(0, i, 0), QuadKeys.BAD);
        }
        int[] goals = {0, -1, 100, Integer.MIN_VALUE, Integer.MAX_VALUE};
        for (int g : goals) {
            Check.due("joined g", q.joined(0, g), QuadKeys.BAD);
            Check.due("best m", q.best(g), QuadKeys.BAD);
        }
        Check.due("best 13", q.best(13), QuadKeys.BAD);
        Check.due("a big i", q.span(1, Integer.MAX_VALUE, 0), QuadKeys.NONE);
    }

    private static void bestByHand() {
        QuadKeys q = Check.laid("w2,1;+b0,0,0,0;+b3,3,3,3;+b2,2,2,2;");
        int[] want = {13, 2, 0, 0};
        for (int m = 1; m <= 4; m++) {
            Check.due("best " + m, q.best(m), want[m - 1]);
        }
        q.levels(0, 1);
        int[] coarse = {13, 5, 5};
        for (int m = 1; m <= 3; m++) {
            Check.due("coarse best " + m, q.best(m), coarse[m - 1]);
        }
        q.levels(2, 2);
        int[] fine = {QuadKeys.NONE, QuadKeys.NONE, 0};
        for (int m = 1; m <= 3; m++) {
            Check.due("fine best " + m, q.best(m), fine[m - 1]);
        }
        q.box(1, 0, 0, 3, 3);
        Check.due("no set", q.best(12), QuadKeys.NONE);
        q.levels(1, 2);
        Check.due("quarters", q.best(4), 0);
        Check.due("too few", q.best(3), QuadKeys.NONE);
    }

    /** Each set of tiles of a world of D = 2 with no cell in common: its cells, tiles and levels as bits. */
    private static List<int[]> allSets() {
        List<int[]> sets = new ArrayList<>();
        sets.add(new int[] {0xFFFF, 1, 1});
        sets.add(new int[] {0, 0, 0});
        for (int quarter = 0; quarter < 4; quarter++) {
            List<int[]> more = new ArrayList<>();
            for (int[] set : sets) {
                if ((set[2] & 1) != 0) {
                    continue;
                }
                more.add(new int[] {set[0] | 15 << (4 * quarter), set[1] + 1, set[2] | 2});
                for (int cells = 1; cells < 16; cells++) {
                    int tiles = set[1] + Integer.bitCount(cells);
                    more.add(new int[] {set[0] | cells << (4 * quarter), tiles, set[2] | 4});
                }
            }
            sets.addAll(more);
        }
        return sets;
    }

    private static void bestByAllSets(Random random, List<int[]> sets) {
        QuadKeys q = Check.laid("w2," + random.nextInt(2) + ";");
        for (int i = random.nextInt(6); i >= 0; i--) {
            int x = random.nextInt(4);
            int y = random.nextInt(4);
            q.box(random.nextInt(4) == 0 ? 0 : 1, x, y, x + random.nextInt(4 - x), y + random.nextInt(4 - y));
        }
        int lo = random.nextInt(3);
        int hi = lo + random.nextInt(3 - lo);
        q.levels(lo, hi);
        int shape = 0;
        for (int k = 0; k < 16; k++) {
            shape |= q.in(q.cell(k, 0), q.cell(k, 1)) << k;
        }
        int allowed = 7 >> (2 - hi + lo) << lo;
        int[] least = new int[13];
        Arrays.fill(least, 99);
        for (int[] set : sets) {
            if ((set[2] & ~allowed) == 0 && (shape & ~set[0]) == 0) {
                for (int m = set[1]; m <= 12; m++) {
                    least[m] = Math.min(least[m], Integer.bitCount(set[0] ^ shape));
                }
            }
        }
        for (int m = 1; m <= 12; m++) {
            Check.due("best by all sets", q.best(m), least[m] == 99 ? QuadKeys.NONE : least[m]);
        }
    }
}
