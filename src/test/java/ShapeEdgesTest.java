/** Where curve, levels, parts, covers and spans end: each sentence of the terms, promises 7 to 11, 20 to 25. */
public final class ShapeEdgesTest {
    private static final int[] FAR = {Integer.MIN_VALUE, Integer.MIN_VALUE + 1, Integer.MAX_VALUE - 1,
        Integer.MAX_VALUE};

    public static void main(String[] args) {
        curveNoughtOrOne();
        levelsOfAllPairs();
        levelsHoldForCovers();
        boxNumbers();
        boxOfACellAndOfTheWorld();
        partsEightAtMost();
        discRadius();
        discEdgeIsIn();
        discIsCutByTheWorld();
        dropNumbers();
        dropOfTheLast();
        partInAnothersPlace();
        coversFollowWhatChanges();
        shapeOfNoPart();
        shapeByTheLastPart();
        for (int c = 0; c < 2; c++) {
            for (int d = 1; d <= 6; d++) {
                for (int hi = 0; hi <= d; hi++) {
                    coversOfOneCell(c, d, hi);
                    coversOfAllButOneCell(c, d, hi);
                    coversOfTheWorld(c, d, hi);
                    coversOfNone(c, d, hi);
                }
            }
        }
        coverNumbers();
        restNumbers();
        bestNumbers();
        bestByTwelveAndThirteen();
        bestOfNoSuchSet();
        bestOfFewer();
        spanNumbers();
        spansDoNotGoRound();
        spansOverTiles();
        joinedNumbers();
        joinedToAsManyAsThereAre();
        joinedOverTheNarrowest();
        joinedOfNinetyNine();
        Check.end();
    }

    private static String world(int d, int c) {
        return "w" + d + "," + c + ";";
    }

    /** curve: "BAD; NO: it is so". */
    private static void curveNoughtOrOne() {
        for (int c = 0; c < 2; c++) {
            QuadKeys q = Check.laid(world(1, c));
            Check.due("so", q.curve(c), QuadKeys.NO);
            for (int n : new int[] {-1, 2, 3, 4, FAR[0], FAR[1], FAR[2], FAR[3]}) {
                Check.due("curve " + n, q.curve(n), QuadKeys.BAD);
            }
            Check.due("stays", q.count(1), c);
            Check.due("the other one", q.curve(1 - c), c);
            Check.due("is so now", q.curve(1 - c), QuadKeys.NO);
            Check.due("is so now", q.count(1), 1 - c);
            Check.due("back", q.curve(c), 1 - c);
            Check.due("back", q.count(1), c);
        }
    }

    /** levels: "(lo no more than hi, 0 to D ..)", "lo, and 10 times hi, as they were. BAD; NO: they are so". */
    private static void levelsOfAllPairs() {
        for (int d = 1; d <= 6; d++) {
            QuadKeys q = Check.laid(world(d, 0));
            Check.due("lo by LAID", q.count(2), 0);
            Check.due("hi by LAID", q.count(3), d);
            Check.due("so by LAID", q.levels(0, d), QuadKeys.NO);
            int were = 10 * d;
            for (int lo = -1; lo <= d + 1; lo++) {
                for (int hi = -1; hi <= d + 1; hi++) {
                    boolean told = lo >= 0 && lo <= hi && hi <= d;
                    boolean so = lo + 10 * hi == were;
                    int want = !told ? QuadKeys.BAD : so ? QuadKeys.NO : were;
                    Check.due("levels " + lo + ", " + hi, q.levels(lo, hi), want);
                    were = told ? lo + 10 * hi : were;
                    Check.due("lo", q.count(2), were % 10);
                    Check.due("hi", q.count(3), were / 10);
                }
            }
            for (int n : FAR) {
                Check.due("levels far", q.levels(n, d), QuadKeys.BAD);
                Check.due("levels far", q.levels(0, n), QuadKeys.BAD);
                Check.due("levels far", q.levels(n, n), QuadKeys.BAD);
            }
        }
    }

    /** LEVELS "hold for COVERS": not for tile, common and beside. */
    private static void levelsHoldForCovers() {
        QuadKeys q = Check.laid("w3,0;+b0,0,0,0;");
        q.levels(1, 1);
        Check.due("cover", q.cover(0, 0, 0), 1);
        Check.due("rest", q.rest(0), 15);
        Check.due("tile above lo", q.tile(0, 0, 2), 8);
        Check.due("tile below hi", q.tile(3, 63, 2), 1);
        Check.due("beside below hi", q.beside(3, 0, 1, 0), 1);
        Check.due("common below hi", q.common(0, 0, 0, 0), 3);
        Check.due("common above lo", q.common(0, 0, 7, 7), 0);
        Check.due("cells", q.count(6), 1);
    }

    /** box: "put on (on = 1), taken off (0)"; "X no more than V, Y no more than W". BAD. */
    private static void boxNumbers() {
        for (int d = 1; d <= 6; d++) {
            int far = (1 << d) - 1;
            QuadKeys q = Check.laid(world(d, 1));
            for (int on : new int[] {-1, 2, 3, FAR[0], FAR[3]}) {
                Check.due("on " + on, q.box(on, 0, 0, far, far), QuadKeys.BAD);
            }
            Check.due("V less than X by one", q.box(1, far, 0, far - 1, far), QuadKeys.BAD);
            Check.due("W less than Y by one", q.box(1, 0, far, far, far - 1), QuadKeys.BAD);
            for (int n : new int[] {-1, far + 1, FAR[0], FAR[1], FAR[2], FAR[3]}) {
                Check.due("x " + n, q.box(1, n, 0, far, far), QuadKeys.BAD);
                Check.due("y " + n, q.box(1, 0, n, far, far), QuadKeys.BAD);
                Check.due("v " + n, q.box(1, 0, 0, n, far), QuadKeys.BAD);
                Check.due("w " + n, q.box(1, 0, 0, far, n), QuadKeys.BAD);
                Check.due("all " + n, q.box(0, n, n, n, n), QuadKeys.BAD);
            }
            Check.due("no part", q.count(4), 0);
            Check.due("no cell", q.count(6), 0);
        }
    }

    /** "a BOX ..: CELLS from X to V, Y to W": both ends are in. */
    private static void boxOfACellAndOfTheWorld() {
        for (int d = 1; d <= 6; d++) {
            int far = (1 << d) - 1;
            QuadKeys q = Check.laid(world(d, 0));
            Check.due("a cell", q.box(1, far, 0, far, 0), 1);
            Check.due("a cell", q.count(6), 1);
            Check.due("it", q.in(far, 0), 1);
            Check.due("beside it", q.in(far - 1, 0), 0);
            Check.due("beside it", q.in(far, 1), 0);
            Check.due("world", q.box(1, 0, 0, far, far), 2);
            Check.due("world", q.count(6), (far + 1) * (far + 1));
            Check.due("a column", q.box(0, far, 0, far, far), 3);
            Check.due("a column less", q.count(6), far * (far + 1));
            Check.due("its end", q.in(far, far), 0);
            Check.due("world off", q.box(0, 0, 0, far, far), 4);
            Check.due("world off", q.count(6), 0);
        }
    }

    /** box and disc: "BAD; FULL", in this order, for PARTS of both kinds together ("8 at most"). */
    private static void partsEightAtMost() {
        for (int discs = 0; discs <= 8; discs++) {
            QuadKeys q = Check.laid(world(2, 0));
            for (int i = 0; i < 8; i++) {
                int answer = i < discs ? q.disc(1, i % 4, 0, 0) : q.box(1, i % 4, 1, i % 4, 1);
                Check.due("part " + i, answer, i + 1);
            }
            Check.due("a box more", q.box(1, 0, 0, 3, 3), QuadKeys.FULL);
            Check.due("a disc more", q.disc(1, 0, 0, 9), QuadKeys.FULL);
            Check.due("one taken off more", q.box(0, 0, 0, 3, 3), QuadKeys.FULL);
            Check.due("BAD ahead of FULL", q.box(2, 0, 0, 3, 3), QuadKeys.BAD);
            Check.due("BAD ahead of FULL", q.box(1, 0, 0, 4, 3), QuadKeys.BAD);
            Check.due("BAD ahead of FULL", q.box(1, 1, 0, 0, 3), QuadKeys.BAD);
            Check.due("BAD ahead of FULL", q.disc(2, 0, 0, 0), QuadKeys.BAD);
            Check.due("BAD ahead of FULL", q.disc(1, 0, 4, 0), QuadKeys.BAD);
            Check.due("BAD ahead of FULL", q.disc(1, 0, 0, 64), QuadKeys.BAD);
            Check.due("eight", q.count(4), 8);
            Check.due("cells", q.count(6), Math.min(discs, 4) + Math.min(8 - discs, 4));
            Check.due("drop", q.drop(7), 7);
            Check.due("room again", q.disc(1, 3, 3, 0), 8);
            Check.due("full again", q.disc(1, 3, 3, 0), QuadKeys.FULL);
        }
    }

    /** "R (0 to 63)", in a world of any side; on is 0 or 1. */
    private static void discRadius() {
        for (int d = 1; d <= 6; d++) {
            QuadKeys q = Check.laid(world(d, 0));
            for (int r : new int[] {-1, 64, 65, FAR[0], FAR[1], FAR[2], FAR[3]}) {
                Check.due("r " + r, q.disc(1, 0, 0, r), QuadKeys.BAD);
            }
            for (int on : new int[] {-1, 2, FAR[0], FAR[3]}) {
                Check.due("on " + on, q.disc(on, 0, 0, 0), QuadKeys.BAD);
            }
            Check.due("no part", q.count(4), 0);
            Check.due("r 0", q.disc(1, 1, 1, 0), 1);
            Check.due("a cell", q.count(6), 1);
            Check.due("it", q.in(1, 1), 1);
            Check.due("r 63", q.disc(1, 0, 0, 63), 2);
            Check.due("far", q.in((1 << d) - 1, 0), 1);
            Check.due("farthest", q.in((1 << d) - 1, (1 << d) - 1), d < 6 ? 1 : 0);
        }
    }

    /** "for which the squares .. together are no more than that of R". */
    private static void discEdgeIsIn() {
        QuadKeys q = Check.laid("w6,1;+d0,0,63;");
        Check.due("63, 0", q.in(63, 0), 1);
        Check.due("63, 1", q.in(63, 1), 0);
        Check.due("0, 63", q.in(0, 63), 1);
        Check.due("1, 63", q.in(1, 63), 0);
        QuadKeys five = Check.laid("w4,1;+d8,8,5;");
        for (int i = 0; i < 8; i++) {
            int a = (i & 1) == 0 ? 1 : -1;
            int b = (i & 2) == 0 ? 1 : -1;
            boolean steep = (i & 4) == 0;
            Check.due("3 and 4 are 5", five.in(8 + a * (steep ? 3 : 4), 8 + b * (steep ? 4 : 3)), 1);
            Check.due("4 and 4 are more", five.in(8 + a * 4, 8 + b * 4), 0);
            Check.due("5 and 1 are more", five.in(8 + a * (steep ? 1 : 5), 8 + b * (steep ? 5 : 1)), 0);
            Check.due("5 and 0 are 5", five.in(8 + (steep ? 0 : a * 5), 8 + (steep ? b * 5 : 0)), 1);
        }
        Check.due("cells", five.count(6), 81);
    }

    /** A disc over the edge of the world is cut there; it does not come in again on the other side. */
    private static void discIsCutByTheWorld() {
        QuadKeys q = Check.laid("w3,0;+d0,0,1;");
        Check.due("at a corner", q.count(6), 3);
        Check.due("not over the edge", q.in(7, 0), 0);
        Check.due("not over the edge", q.in(0, 7), 0);
        q.disc(1, 7, 7, 1);
        Check.due("at two corners", q.count(6), 6);
        q.disc(1, 7, 0, 1);
        q.disc(1, 0, 7, 1);
        Check.due("at four corners", q.count(6), 12);
    }

    /** drop: "A PART goes, those behind it are one number lower: how many are left. BAD". */
    private static void dropNumbers() {
        for (int many = 0; many <= 8; many++) {
            for (int gone = 0; gone < Math.max(many, 1); gone++) {
                QuadKeys q = Check.laid(world(3, 1));
                for (int i = 0; i < many; i++) {
                    q.box(1, i, 0, i, 0);
                }
                for (int i : new int[] {-1, many, many + 1, 8, 9, FAR[0], FAR[3]}) {
                    Check.due("drop " + i + " of " + many, q.drop(i), QuadKeys.BAD);
                }
                Check.due("drop", q.drop(gone), many == 0 ? QuadKeys.BAD : many - 1);
                Check.due("left", q.count(4), Math.max(many - 1, 0));
                for (int i = 0; i < many; i++) {
                    Check.due("cell of " + i, q.in(i, 0), i == gone ? 0 : 1);
                }
                for (int i = many - 2; i >= 0; i--) {
                    int lower = i < gone ? i : i + 1;
                    Check.due("drop " + i, q.drop(i), i);
                    Check.due("it was " + lower, q.in(lower, 0), 0);
                    Check.due("cells", q.count(6), i);
                }
            }
        }
    }

    /** drop of the only part leaves none; a new part behind a drop is the last one. */
    private static void dropOfTheLast() {
        QuadKeys q = Check.laid("w2,1;+b0,0,3,3;-b0,0,3,3;");
        Check.due("none", q.count(6), 0);
        Check.due("drop", q.drop(0), 1);
        Check.due("none", q.count(6), 0);
        Check.due("box", q.box(1, 0, 0, 3, 3), 2);
        Check.due("all", q.count(6), 16);
        Check.due("drop", q.drop(1), 1);
        Check.due("drop", q.drop(0), 0);
        Check.due("drop of none", q.drop(0), QuadKeys.BAD);
        Check.due("cells of none", q.count(6), 0);
        Check.due("box", q.box(1, 3, 3, 3, 3), 1);
        Check.due("one", q.count(6), 1);
    }

    /** A part that comes where another kind went is all of its own kind. */
    private static void partInAnothersPlace() {
        QuadKeys q = Check.laid("w3,0;+d3,3,1;");
        Check.due("disc", q.count(6), 5);
        q.drop(0);
        q.box(1, 2, 2, 4, 4);
        Check.due("box for a disc", q.count(6), 9);
        q.drop(0);
        q.disc(1, 3, 3, 1);
        Check.due("disc for a box", q.count(6), 5);
        q.drop(0);
        q.disc(0, 3, 3, 1);
        Check.due("taken off for put on", q.count(6), 0);
        Check.tell(q, "w3,0;+b2,2,4,4;");
        q.lay();
        Check.due("laid", q.count(6), 9);
        Check.tell(q, "w3,0;+b0,0,0,0;");
        q.lay();
        Check.due("laid where the first disc was", q.count(6), 1);
    }

    /** Covers follow each of the calls that change them: nothing of those ahead is left in them. */
    private static void coversFollowWhatChanges() {
        QuadKeys q = Check.laid("w2,0;+b0,0,3,0;");
        Check.due("tile 1", q.tile(1, 1, 5), 2);
        Check.due("tile 3", q.tile(1, 3, 5), 0);
        q.curve(1);
        Check.due("tile 1 behind curve", q.tile(1, 1, 5), 0);
        Check.due("tile 3 behind curve", q.tile(1, 3, 5), 2);
        Check.due("within", q.rest(1), 0);
        q.levels(0, 1);
        Check.due("within behind levels", q.cover(1, -1, 0), 0);
        Check.due("rest behind levels", q.rest(0), 4);
        q.box(1, 0, 1, 3, 1);
        Check.due("within behind box", q.cover(1, -1, 0), 2);
        Check.due("best behind box", q.best(2), 0);
        q.disc(0, 0, 0, 0);
        Check.due("within behind disc", q.cover(1, -1, 0), 1);
        Check.due("best behind disc", q.best(2), 1);
        q.drop(2);
        Check.due("within behind drop", q.span(1, -1, 0), 2);
        Check.due("joined behind drop", q.joined(1, 1), 8);
        Check.tell(q, "w2,0;+b0,0,3,0;");
        q.lay();
        Check.due("within behind lay", q.cover(1, -1, 0), 4);
        Check.due("best behind lay", q.best(2), 4);
    }

    /** "(none that no PART has)". */
    private static void shapeOfNoPart() {
        for (int d = 1; d <= 6; d++) {
            QuadKeys q = Check.laid(world(d, 1));
            int far = (1 << d) - 1;
            Check.due("cells", q.count(6), 0);
            Check.due("in", q.in(0, 0), 0);
            Check.due("in", q.in(far, far), 0);
            q.box(0, 0, 0, far, far);
            Check.due("taken off from none", q.count(6), 0);
            q.box(1, far, far, far, far);
            Check.due("only what a part has", q.count(6), 1);
        }
    }

    /** "THE SHAPE: the CELLS which the last PART that has them put on". */
    private static void shapeByTheLastPart() {
        QuadKeys q = Check.laid(world(1, 0));
        for (int i = 0; i < 8; i++) {
            q.box((i + 1) % 2, 0, 0, 0, 0);
            Check.due("behind part " + i, q.in(0, 0), (i + 1) % 2);
        }
        for (int i = 7; i > 0; i--) {
            q.drop(i);
            Check.due("without part " + i, q.in(0, 0), i % 2);
        }
        q.disc(0, 1, 1, 0);
        Check.due("a part elsewhere", q.in(0, 0), 1);
        Check.due("its cell", q.in(1, 1), 0);
    }

    private static void tilesAre(QuadKeys q, String of, int which, int many) {
        Check.due(of + " how many", q.cover(which, -1, 0), many);
        Check.due(of + " how many", q.cover(which, -1, 1), many);
        Check.due(of + " not so many", q.cover(which, many, 0), QuadKeys.NONE);
        Check.due(of + " not so many", q.cover(which, many, 1), QuadKeys.NONE);
    }

    /** "OUTER COVER: all CELLS of TILES of level hi in which a CELL of THE SHAPE is": one is enough. */
    private static void coversOfOneCell(int c, int d, int hi) {
        int size = 1 << (2 * (d - hi));
        for (int corner = 0; corner < 4; corner++) {
            int x = corner % 2 * ((1 << d) - 1);
            int y = corner / 2 * ((1 << d) - 1);
            QuadKeys q = Check.laid(world(d, c));
            q.box(1, x, y, x, y);
            int first = q.key(x, y) / size * size;
            for (int lo = 0; lo <= hi; lo++) {
                String of = "one cell of D " + d + ", levels " + lo + ", " + hi;
                q.levels(lo, hi);
                tilesAre(q, of, 0, 1);
                Check.due(of + " level", q.cover(0, 0, 0), hi);
                Check.due(of + " key", q.cover(0, 0, 1), first / size);
                Check.due(of + " span", q.span(0, 0, 0), first);
                Check.due(of + " span", q.span(0, 0, 1), first + size - 1);
                tilesAre(q, of, 1, size == 1 ? 1 : 0);
                Check.due(of + " rest", q.rest(0), size - 1);
                Check.due(of + " rest within", q.rest(1), size == 1 ? 0 : 1);
                Check.due(of + " best", q.best(1), size - 1);
                Check.due(of + " best", q.best(12), size - 1);
            }
        }
    }

    /** "INNER: of those in which all are": all but one are not enough. */
    private static void coversOfAllButOneCell(int c, int d, int hi) {
        int size = 1 << (2 * (d - hi));
        int far = (1 << d) - 1;
        int cells = 1 << (2 * d);
        QuadKeys q = Check.laid(world(d, c));
        q.box(1, 0, 0, far, far);
        q.box(0, 0, 0, 0, 0);
        for (int lo = 0; lo <= hi; lo++) {
            String of = "all but one of D " + d + ", levels " + lo + ", " + hi;
            q.levels(lo, hi);
            int within = (1 << (2 * lo)) - 1 + 3 * (hi - lo);
            int without = size == 1 ? within : 1 << (2 * lo);
            tilesAre(q, of, 0, without);
            tilesAre(q, of, 1, within);
            Check.due(of + " level of the last", q.cover(0, without - 1, 0), size == 1 && lo == 0 ? 1 : lo);
            Check.due(of + " first level within", q.cover(1, 0, 0), within == 0 ? QuadKeys.NONE : hi);
            Check.due(of + " first key within", q.cover(1, 0, 1), within == 0 ? QuadKeys.NONE : 1);
            Check.due(of + " rest", q.rest(0), size == 1 ? 0 : 1);
            Check.due(of + " rest within", q.rest(1), size - 1);
            Check.due(of + " spans", q.span(0, -1, 0), 1);
            Check.due(of + " spans within", q.span(1, -1, 0), hi == 0 ? 0 : 1);
            Check.due(of + " first key", q.span(0, 0, 0), size == 1 ? 1 : 0);
            Check.due(of + " last key", q.span(0, 0, 1), cells - 1);
            Check.due(of + " first key within", q.span(1, 0, 0), hi == 0 ? QuadKeys.NONE : size);
            Check.due(of + " last key within", q.span(1, 0, 1), hi == 0 ? QuadKeys.NONE : cells - 1);
        }
    }

    /** "told by the fewest TILES of levels lo to hi": the whole world by tiles of level lo alone. */
    private static void coversOfTheWorld(int c, int d, int hi) {
        QuadKeys q = Check.laid(world(d, c));
        q.box(1, 0, 0, (1 << d) - 1, (1 << d) - 1);
        for (int lo = 0; lo <= hi; lo++) {
            String of = "the world of D " + d + ", levels " + lo + ", " + hi;
            q.levels(lo, hi);
            int tiles = 1 << (2 * lo);
            for (int which = 0; which < 2; which++) {
                tilesAre(q, of, which, tiles);
                Check.due(of + " first level", q.cover(which, 0, 0), lo);
                Check.due(of + " last level", q.cover(which, tiles - 1, 0), lo);
                Check.due(of + " first key", q.cover(which, 0, 1), 0);
                Check.due(of + " last key", q.cover(which, tiles - 1, 1), tiles - 1);
                Check.due(of + " rest", q.rest(which), 0);
                Check.due(of + " spans", q.span(which, -1, 0), 1);
                Check.due(of + " joined", q.joined(which, 1), 0);
            }
            Check.due(of + " best", q.best(1), lo == 0 ? 0 : QuadKeys.NONE);
            Check.due(of + " best", q.best(3), lo == 0 ? 0 : QuadKeys.NONE);
            Check.due(of + " best", q.best(4), lo <= 1 ? 0 : QuadKeys.NONE);
            Check.due(of + " best", q.best(12), lo <= 1 ? 0 : QuadKeys.NONE);
        }
    }

    /** The empty shape: no tile, no span, no rest; BEST "(0, if that is empty)", whatever the levels are. */
    private static void coversOfNone(int c, int d, int hi) {
        QuadKeys q = Check.laid(world(d, c));
        for (int lo = 0; lo <= hi; lo++) {
            String of = "none of D " + d + ", levels " + lo + ", " + hi;
            q.levels(lo, hi);
            for (int which = 0; which < 2; which++) {
                tilesAre(q, of, which, 0);
                Check.due(of + " rest", q.rest(which), 0);
                Check.due(of + " spans", q.span(which, -1, 0), 0);
                Check.due(of + " span", q.span(which, 0, 0), QuadKeys.NONE);
                Check.due(of + " span", q.span(which, 0, 1), QuadKeys.NONE);
                Check.due(of + " joined", q.joined(which, 1), 0);
                Check.due(of + " joined", q.joined(which, 99), 0);
            }
            Check.due(of + " best", q.best(1), 0);
            Check.due(of + " best", q.best(12), 0);
            Check.due(of + " best of 0", q.best(0), QuadKeys.BAD);
            Check.due(of + " best of 13", q.best(13), QuadKeys.BAD);
        }
    }

    /** cover: "BAD (i below -1); NONE: not so many". */
    private static void coverNumbers() {
        QuadKeys q = new QuadKeys();
        for (int which = 0; which < 2; which++) {
            for (int what = 0; what < 2; what++) {
                Check.due("how many", q.cover(which, -1, what), 44);
                Check.due("the first", q.cover(which, 0, what), what == 0 ? 4 : 9);
                Check.due("the last", q.cover(which, 43, what) >= 0 ? 1 : 0, 1);
                Check.due("behind the last", q.cover(which, 44, what), QuadKeys.NONE);
                Check.due("far behind", q.cover(which, FAR[2], what), QuadKeys.NONE);
                Check.due("far behind", q.cover(which, FAR[3], what), QuadKeys.NONE);
                Check.due("i -2", q.cover(which, -2, what), QuadKeys.BAD);
                Check.due("i far below", q.cover(which, FAR[0], what), QuadKeys.BAD);
            }
        }
        for (int n : new int[] {-1, 2, FAR[0], FAR[3]}) {
            for (int i : new int[] {-2, -1, 0, 44}) {
                Check.due("which " + n + ", i " + i, q.cover(n, i, 0), QuadKeys.BAD);
                Check.due("what " + n + ", i " + i, q.cover(0, i, n), QuadKeys.BAD);
            }
        }
    }

    /** rest: "REST of a COVER. BAD". */
    private static void restNumbers() {
        QuadKeys q = new QuadKeys();
        for (int n : new int[] {-1, 2, FAR[0], FAR[3]}) {
            Check.due("which " + n, q.rest(n), QuadKeys.BAD);
        }
        q.levels(0, 0);
        Check.due("the world besides the shape", q.rest(0), 176);
        Check.due("no tile within: all of the shape", q.rest(1), 80);
    }

    /** best: "BEST of m (1 to 12). BAD". */
    private static void bestNumbers() {
        QuadKeys q = new QuadKeys();
        for (int m : new int[] {0, 13, -1, 14, FAR[0], FAR[1], FAR[2], FAR[3]}) {
            Check.due("best " + m, q.best(m), QuadKeys.BAD);
        }
        Check.due("best 1", q.best(1), 176);
        Check.due("best 12", q.best(12), 64);
        q.levels(4, 4);
        Check.due("BAD where there is no set", q.best(13), QuadKeys.BAD);
        Check.due("BAD where there is no set", q.best(0), QuadKeys.BAD);
    }

    /** BEST: "a set of m or fewer TILES": twelve cells by twelve, thirteen by none, if only cells may be taken. */
    private static void bestByTwelveAndThirteen() {
        for (int cells = 10; cells <= 13; cells++) {
            QuadKeys q = Check.laid("w4,0;");
            q.box(1, 0, 0, cells - 1, 0);
            q.levels(4, 4);
            for (int m = 1; m <= 12; m++) {
                Check.due(cells + " cells by " + m, q.best(m), m >= cells ? 0 : QuadKeys.NONE);
            }
        }
    }

    /** best: "NONE: there is no such set": lo is too high for so few. */
    private static void bestOfNoSuchSet() {
        QuadKeys q = Check.laid("w3,1;+b0,0,0,0;+b7,0,7,0;+b0,7,0,7;+b7,7,7,7;");
        int[][] want = {{60, 60, 60, 0}, {-4, -4, -4, 0}, {-4, -4, -4, 0}, {-4, -4, -4, 0}};
        int[][] coarse = {{60, 60, 60, 60}, {-4, -4, -4, 60}, {-4, -4, -4, 12}};
        for (int m = 1; m <= 4; m++) {
            q.levels(0, 3);
            Check.due("lo 0, m " + m, q.best(m), want[0][m - 1]);
            for (int lo = 1; lo <= 3; lo++) {
                q.levels(lo, 3);
                Check.due("lo " + lo + ", m " + m, q.best(m), want[lo][m - 1]);
            }
            for (int l = 0; l <= 2; l++) {
                q.levels(l, l);
                Check.due("level " + l + ", m " + m, q.best(m), coarse[l][m - 1]);
            }
        }
    }

    /** BEST: "m or fewer": more tiles than the shape needs never make it worse. */
    private static void bestOfFewer() {
        QuadKeys q = Check.laid("w3,0;+b0,0,3,3;");
        for (int m = 1; m <= 12; m++) {
            Check.due("a quarter by " + m, q.best(m), 0);
        }
        q.box(1, 7, 7, 7, 7);
        Check.due("by 1", q.best(1), 47);
        for (int m = 2; m <= 12; m++) {
            Check.due("a quarter and a cell by " + m, q.best(m), 0);
        }
        q.levels(2, 2);
        for (int m = 1; m <= 12; m++) {
            Check.due("by tiles of side 2, " + m, q.best(m), m < 5 ? QuadKeys.NONE : 3);
        }
    }

    /** span: "BAD (i below -1); NONE: not so many". */
    private static void spanNumbers() {
        QuadKeys q = new QuadKeys();
        for (int which = 0; which < 2; which++) {
            for (int what = 0; what < 2; what++) {
                Check.due("how many", q.span(which, -1, what), 17);
                Check.due("the first", q.span(which, 0, what), 9 + what);
                Check.due("the last", q.span(which, 16, what) > 0 ? 1 : 0, 1);
                Check.due("behind the last", q.span(which, 17, what), QuadKeys.NONE);
                Check.due("far behind", q.span(which, FAR[2], what), QuadKeys.NONE);
                Check.due("far behind", q.span(which, FAR[3], what), QuadKeys.NONE);
                Check.due("i -2", q.span(which, -2, what), QuadKeys.BAD);
                Check.due("i far below", q.span(which, FAR[0], what), QuadKeys.BAD);
            }
        }
        for (int n : new int[] {-1, 2, FAR[0], FAR[3]}) {
            for (int i : new int[] {-2, -1, 0, 17}) {
                Check.due("which " + n + ", i " + i, q.span(n, i, 0), QuadKeys.BAD);
                Check.due("what " + n + ", i " + i, q.span(0, i, n), QuadKeys.BAD);
            }
        }
    }

    /** "SPANS ..: its CELLS' KEYS, in runs": the first key is not behind the last one. */
    private static void spansDoNotGoRound() {
        for (int c = 0; c < 2; c++) {
            for (int d = 1; d <= 6; d++) {
                int last = (1 << (2 * d)) - 1;
                int far = (1 << d) - 1;
                QuadKeys q = Check.laid(world(d, c));
                q.box(1, 0, 0, 0, 0);
                q.box(1, far, c == 0 ? far : 0, far, c == 0 ? far : 0);
                Check.due("two spans", q.span(0, -1, 0), 2);
                Check.due("first of the first", q.span(0, 0, 0), 0);
                Check.due("last of the first", q.span(0, 0, 1), 0);
                Check.due("first of the last", q.span(0, 1, 0), last);
                Check.due("last of the last", q.span(0, 1, 1), last);
                Check.due("joined", q.joined(0, 1), last - 1);
                Check.due("joined", q.joined(0, 2), 0);
            }
        }
    }

    /** SPANS: "as long as can be": over tiles of all sizes that follow one another. */
    private static void spansOverTiles() {
        QuadKeys q = Check.laid("w3,0;+b0,0,3,3;+b4,0,5,1;+b6,0,6,0;");
        Check.due("tiles", q.cover(0, -1, 0), 3);
        Check.due("spans", q.span(0, -1, 0), 1);
        Check.due("first", q.span(0, 0, 0), 0);
        Check.due("last", q.span(0, 0, 1), 20);
        q.box(0, 0, 0, 0, 0);
        Check.due("first", q.span(0, 0, 0), 1);
        q.box(1, 6, 1, 6, 1);
        Check.due("two spans with one key between", q.span(0, -1, 0), 2);
        Check.due("last of the first", q.span(0, 0, 1), 20);
        Check.due("first of the second", q.span(0, 1, 0), 22);
        Check.due("joined", q.joined(0, 1), 1);
    }

    /** joined: "JOINED to g (1 to 99). BAD". */
    private static void joinedNumbers() {
        QuadKeys q = new QuadKeys();
        for (int which = 0; which < 2; which++) {
            for (int g : new int[] {0, 100, -1, 101, FAR[0], FAR[1], FAR[2], FAR[3]}) {
                Check.due("g " + g, q.joined(which, g), QuadKeys.BAD);
            }
            Check.due("g 1", q.joined(which, 1), 141);
            Check.due("g 99", q.joined(which, 99), 0);
        }
        for (int n : new int[] {-1, 2, FAR[0], FAR[3]}) {
            Check.due("which " + n, q.joined(n, 1), QuadKeys.BAD);
            Check.due("which " + n, q.joined(n, 99), QuadKeys.BAD);
        }
    }

    /** JOINED: "that there are no more than g SPANS": nothing to fill for as many or more. */
    private static void joinedToAsManyAsThereAre() {
        QuadKeys q = Check.laid("w3,0;+b0,0,0,0;+b2,0,2,0;+b0,2,0,2;+b2,2,2,2;+b7,7,7,7;");
        int[] want = {59, 9, 6, 3, 0, 0};
        Check.due("spans", q.span(0, -1, 0), 5);
        for (int g = 1; g <= 6; g++) {
            Check.due("joined to " + g, q.joined(0, g), want[g - 1]);
        }
    }

    /** JOINED: the fewest keys: the widest gaps stay, whether they come first, last or between. */
    private static void joinedOverTheNarrowest() {
        QuadKeys q = Check.laid("w3,0;+b0,0,0,0;+b2,0,2,0;+b4,0,4,0;+b5,0,5,0;+b7,0,7,0;+b7,7,7,7;");
        int[] want = {58, 17, 6, 3, 0};
        Check.due("spans", q.span(0, -1, 0), 5);
        for (int g = 1; g <= 5; g++) {
            Check.due("joined to " + g, q.joined(0, g), want[g - 1]);
        }
        QuadKeys turned = Check.laid("w3,0;+b0,0,0,0;+b0,7,0,7;+b3,7,3,7;+b5,7,5,7;+b7,7,7,7;");
        int[] back = {59, 18, 7, 3, 0};
        for (int g = 1; g <= 5; g++) {
            Check.due("joined the other way to " + g, turned.joined(0, g), back[g - 1]);
        }
    }

    /** JOINED to 99, where there are 98 to 101 spans: 64 of one column, the others of a second one. */
    private static void joinedOfNinetyNine() {
        for (int more = 34; more <= 37; more++) {
            QuadKeys q = Check.laid("w6,0;+b0,0,0,63;");
            q.box(1, 2, 0, 2, more - 1);
            int spans = 64 + more;
            Check.due("spans", q.span(0, -1, 0), spans);
            Check.due("joined to 99 of " + spans, q.joined(0, 99), Math.max(0, spans - 99));
            Check.due("joined to 98 of " + spans, q.joined(0, 98), Math.max(0, spans - 98));
        }
    }
}
