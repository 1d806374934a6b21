/** Where points, their order and what is looked for end: each sentence of the terms, promises 12, 13, 26 to 31. */
public final class PointEdgesTest {
    private static final int[] FAR = {Integer.MIN_VALUE, Integer.MIN_VALUE + 1, Integer.MAX_VALUE - 1,
        Integer.MAX_VALUE};

    public static void main(String[] args) {
        pointNumbers();
        pointsFortyAtMost();
        liftNumbers();
        liftMakesRoom();
        atNumbers();
        orderOfOneKeyByNumbers();
        orderByBothCurves();
        orderedNumbers();
        seenAndFoundOfNoShape();
        seenAndFoundOfTheWorld();
        seenByTheOuterCover();
        searchNumbers();
        foundNumbers();
        foundFollowsWhatChanges();
        nearestOfNoPoint();
        nearestOfSeveral();
        nearestFromEndToEnd();
        countNumbers();
        countFromNoneToFull();
        Check.end();
    }

    private static QuadKeys withPoints(String text, int many) {
        QuadKeys q = Check.laid(text);
        int side = 1 << q.count(0);
        for (int i = 0; i < many; i++) {
            q.point(i % side, i / side % side);
        }
        return q;
    }

    /** point: "A POINT more: its number. BAD; FULL": "CELLS .. such as there are". */
    private static void pointNumbers() {
        for (int d = 1; d <= 6; d++) {
            int side = 1 << d;
            QuadKeys q = Check.laid("w" + d + ",0;");
            for (int n : new int[] {-1, side, FAR[0], FAR[1], FAR[2], FAR[3]}) {
                Check.due("x " + n, q.point(n, 0), QuadKeys.BAD);
                Check.due("y " + n, q.point(0, n), QuadKeys.BAD);
                Check.due("both " + n, q.point(n, n), QuadKeys.BAD);
            }
            Check.due("none", q.count(5), 0);
            Check.due("the first", q.point(0, 0), 0);
            Check.due("the second", q.point(side - 1, side - 1), 1);
            Check.due("one like it", q.point(side - 1, side - 1), 2);
            Check.due("x", q.at(2, 0), side - 1);
            Check.due("y", q.at(2, 1), side - 1);
        }
    }

    /** "a POINT more (40 at most)", "numbered as they came, 0, 1, .."; BAD goes ahead of FULL. */
    private static void pointsFortyAtMost() {
        QuadKeys q = Check.laid("w3,1;");
        for (int i = 0; i < 40; i++) {
            Check.due("point " + i, q.point(i % 8, i / 8), i);
        }
        Check.due("one more", q.point(0, 0), QuadKeys.FULL);
        Check.due("one more", q.point(7, 7), QuadKeys.FULL);
        Check.due("BAD ahead of FULL", q.point(8, 0), QuadKeys.BAD);
        Check.due("BAD ahead of FULL", q.point(0, -1), QuadKeys.BAD);
        Check.due("forty", q.count(5), 40);
        for (int i = 0; i < 40; i++) {
            Check.due("x of " + i, q.at(i, 0), i % 8);
            Check.due("y of " + i, q.at(i, 1), i / 8);
        }
        Check.due("no point 40", q.at(40, 0), QuadKeys.BAD);
    }

    /** lift: "A POINT goes, those behind it are one number lower: how many are left. BAD". */
    private static void liftNumbers() {
        for (int many : new int[] {0, 1, 2, 39, 40}) {
            for (int gone : new int[] {0, many / 2, many - 1}) {
                QuadKeys q = withPoints("w3,0;", many);
                for (int i : new int[] {-1, many, many + 1, 40, 41, FAR[0], FAR[1], FAR[2], FAR[3]}) {
                    Check.due("lift " + i + " of " + many, q.lift(i), QuadKeys.BAD);
                }
                Check.due("nothing went", q.count(5), many);
                Check.due("lift " + gone, q.lift(gone), many == 0 ? QuadKeys.BAD : many - 1);
                for (int i = 0; i < many - 1; i++) {
                    int was = i < gone ? i : i + 1;
                    Check.due("x of " + i, q.at(i, 0), was % 8);
                    Check.due("y of " + i, q.at(i, 1), was / 8);
                }
                Check.due("none behind", q.at(many - 1, 0), QuadKeys.BAD);
            }
        }
    }

    /** lift of one of forty makes room for one; lift of the last one leaves none. */
    private static void liftMakesRoom() {
        QuadKeys q = withPoints("w2,0;", 40);
        Check.due("lift", q.lift(39), 39);
        Check.due("point", q.point(3, 3), 39);
        Check.due("full", q.point(3, 3), QuadKeys.FULL);
        for (int i = 39; i >= 0; i--) {
            Check.due("lift", q.lift(0), i);
        }
        Check.due("lift of none", q.lift(0), QuadKeys.BAD);
        Check.due("none", q.count(5), 0);
        Check.due("none in the order", q.ordered(0), QuadKeys.NONE);
        Check.due("the first again", q.point(1, 1), 0);
        Check.due("the first in the order", q.ordered(0), 0);
    }

    /** at: "x (what = 0), y (1), its place in the ORDER (2). BAD". */
    private static void atNumbers() {
        for (int many : new int[] {0, 1, 40}) {
            QuadKeys q = withPoints("w3,0;", many);
            for (int what = 0; what <= 2; what++) {
                for (int i : new int[] {-1, many, 40, 41, FAR[0], FAR[3]}) {
                    Check.due("at " + i + " of " + many, q.at(i, what), QuadKeys.BAD);
                }
            }
            for (int what : new int[] {-1, 3, 4, FAR[0], FAR[3]}) {
                Check.due("what " + what, q.at(0, what), QuadKeys.BAD);
                Check.due("what " + what + " of no point", q.at(many, what), QuadKeys.BAD);
            }
            if (many > 0) {
                Check.due("x of the last", q.at(many - 1, 0), (many - 1) % 8);
                Check.due("y of the last", q.at(many - 1, 1), (many - 1) / 8);
            }
        }
    }

    /** "their ORDER is by KEYS, of one KEY by numbers": forty at one cell. */
    private static void orderOfOneKeyByNumbers() {
        QuadKeys q = Check.laid("w6,1;");
        for (int i = 0; i < 40; i++) {
            q.point(63, 0);
        }
        for (int i = 0; i < 40; i++) {
            Check.due("place of " + i, q.at(i, 2), i);
            Check.due("ordered " + i, q.ordered(i), i);
        }
        q.lift(39);
        q.point(0, 0);
        Check.due("the lowest key", q.ordered(0), 39);
        Check.due("its place", q.at(39, 2), 0);
        for (int i = 0; i < 39; i++) {
            Check.due("place of " + i + " behind it", q.at(i, 2), i + 1);
        }
    }

    /** ORDER of all cells of a world of D = 2, told from the last key to the first, by both curves. */
    private static void orderByBothCurves() {
        QuadKeys q = Check.laid("w2,0;");
        int[] ys = {3, 3, 2, 2, 3, 3, 2, 2, 1, 1, 0, 0, 1, 1, 0, 0};
        int[] xs = {3, 2, 3, 2, 1, 0, 1, 0, 3, 2, 3, 2, 1, 0, 1, 0};
        for (int i = 0; i < 16; i++) {
            q.point(xs[i], ys[i]);
        }
        for (int i = 0; i < 16; i++) {
            Check.due("turned round", q.ordered(i), 15 - i);
            Check.due("turned round", q.at(i, 2), 15 - i);
        }
        q.curve(1);
        int[][] keys = {{0, 1, 14, 15}, {3, 2, 13, 12}, {4, 7, 8, 11}, {5, 6, 9, 10}};
        for (int i = 0; i < 16; i++) {
            int place = keys[ys[i]][xs[i]];
            Check.due("by the other curve", q.at(i, 2), place);
            Check.due("by the other curve", q.ordered(place), i);
        }
    }

    /** ordered: "BAD (below 0); NONE: not so many". */
    private static void orderedNumbers() {
        for (int many : new int[] {0, 1, 39, 40}) {
            QuadKeys q = withPoints("w3,1;", many);
            for (int i : new int[] {many, many + 1, 40, 41, FAR[2], FAR[3]}) {
                Check.due("ordered " + i + " of " + many, q.ordered(i), QuadKeys.NONE);
            }
            for (int i : new int[] {-1, -2, FAR[0], FAR[1]}) {
                Check.due("ordered " + i, q.ordered(i), QuadKeys.BAD);
            }
            if (many > 0) {
                Check.due("the first", q.ordered(0), 0);
                Check.due("the last is one", q.ordered(many - 1) >= 0 ? 1 : 0, 1);
            }
        }
    }

    /** "SEEN are POINTS whose KEYS are in the OUTER COVER, FOUND those whose CELLS are in THE SHAPE": of none. */
    private static void seenAndFoundOfNoShape() {
        QuadKeys q = withPoints("w3,1;", 40);
        Check.due("seen", q.search(0), 0);
        Check.due("found", q.search(1), 0);
        Check.due("the first found", q.found(0), QuadKeys.NONE);
        q.levels(0, 0);
        Check.due("seen", q.search(0), 0);
        QuadKeys bare = Check.laid("w3,1;+b0,0,7,7;");
        Check.due("seen of no point", bare.search(0), 0);
        Check.due("found of no point", bare.search(1), 0);
        Check.due("the first of no point", bare.found(0), QuadKeys.NONE);
    }

    /** All forty are SEEN and FOUND in the whole world, in the ORDER. */
    private static void seenAndFoundOfTheWorld() {
        QuadKeys q = withPoints("w3,1;+b0,0,7,7;", 40);
        Check.due("seen", q.search(0), 40);
        Check.due("found", q.search(1), 40);
        for (int i = 0; i < 40; i++) {
            Check.due("found " + i, q.found(i), q.ordered(i));
        }
        Check.due("no more", q.found(40), QuadKeys.NONE);
    }

    /** SEEN goes by tiles of level hi, FOUND by cells: a point beside the shape. */
    private static void seenByTheOuterCover() {
        QuadKeys q = Check.laid("w3,0;+b0,0,0,0;p0,0;p1,1;p2,2;p4,4;p7,7;");
        int[] seen = {5, 3, 2, 1};
        for (int hi = 3; hi >= 0; hi--) {
            q.levels(0, hi);
            Check.due("seen to level " + hi, q.search(0), seen[hi]);
            Check.due("found all the same", q.search(1), 1);
            Check.due("the one found", q.found(0), 0);
            Check.due("no other one", q.found(1), QuadKeys.NONE);
        }
    }

    /** search: "SEEN (what = 0), FOUND (1). BAD". */
    private static void searchNumbers() {
        for (int what : new int[] {-1, 2, 3, FAR[0], FAR[1], FAR[2], FAR[3]}) {
            Check.due("search " + what, new QuadKeys().search(what), QuadKeys.BAD);
            Check.due("search " + what, Check.laid("w1,0;").search(what), QuadKeys.BAD);
        }
    }

    /** found: "BAD (below 0); NONE: not so many". */
    private static void foundNumbers() {
        QuadKeys q = new QuadKeys();
        Check.due("the last", q.found(3), 4);
        for (int i : new int[] {4, 5, 6, 40, FAR[2], FAR[3]}) {
            Check.due("found " + i, q.found(i), QuadKeys.NONE);
        }
        for (int i : new int[] {-1, -2, FAR[0], FAR[1]}) {
            Check.due("found " + i, q.found(i), QuadKeys.BAD);
            Check.due("found " + i + " of no point", Check.laid("w1,1;").found(i), QuadKeys.BAD);
        }
    }

    /** found and search answer anew behind each of the calls that change something. */
    private static void foundFollowsWhatChanges() {
        QuadKeys q = Check.laid("w2,0;p3,0;p0,3;");
        q.box(1, 0, 0, 3, 3);
        Check.due("by curve 0", q.found(0), 0);
        q.curve(1);
        Check.due("by curve 1", q.found(0), 1);
        q.point(0, 0);
        Check.due("behind point", q.found(0), 2);
        q.lift(2);
        Check.due("behind lift", q.found(0), 1);
        q.disc(0, 0, 3, 0);
        Check.due("behind disc", q.found(0), 0);
        Check.due("seen behind disc", q.search(0), 1);
        q.levels(1, 1);
        Check.due("seen behind levels", q.search(0), 2);
        q.drop(0);
        Check.due("behind drop", q.found(0), QuadKeys.NONE);
        Check.due("seen behind drop", q.search(0), 0);
    }

    /** nearest: "BAD; NONE: there is no POINT", in this order. */
    private static void nearestOfNoPoint() {
        QuadKeys q = Check.laid("w1,0;");
        Check.due("no point", q.nearest(0, 0), QuadKeys.NONE);
        Check.due("no point", q.nearest(1, 1), QuadKeys.NONE);
        for (int n : new int[] {-1, 2, FAR[0], FAR[1], FAR[2], FAR[3]}) {
            Check.due("BAD ahead of NONE", q.nearest(n, 0), QuadKeys.BAD);
            Check.due("BAD ahead of NONE", q.nearest(0, n), QuadKeys.BAD);
        }
        q.point(0, 0);
        Check.due("the only one", q.nearest(1, 1), 0);
        q.lift(0);
        Check.due("none again", q.nearest(0, 0), QuadKeys.NONE);
    }

    /** nearest: "of several the lowest". */
    private static void nearestOfSeveral() {
        QuadKeys q = Check.laid("w3,1;");
        for (int i = 0; i < 40; i++) {
            q.point(5, 5);
        }
        Check.due("forty at one cell", q.nearest(5, 5), 0);
        Check.due("forty at one cell", q.nearest(0, 7), 0);
        QuadKeys round = Check.laid("w4,0;p8,3;p3,8;p12,11;p11,12;p5,4;");
        Check.due("5 and 0, 0 and 5, 4 and 3, 3 and 4", round.nearest(8, 8), 0);
        round.lift(0);
        Check.due("the next lowest", round.nearest(8, 8), 0);
        Check.due("it is", round.at(0, 0), 3);
        round.point(8, 8);
        Check.due("the cell itself", round.nearest(8, 8), 4);
    }

    /** nearest: "the squares of how far by x and y together", as far as can be. */
    private static void nearestFromEndToEnd() {
        QuadKeys q = Check.laid("w6,1;p63,63;");
        Check.due("from corner to corner", q.nearest(0, 0), 0);
        q.point(63, 62);
        Check.due("one nearer", q.nearest(0, 0), 1);
        Check.due("at itself", q.nearest(63, 63), 0);
        q.point(0, 63);
        q.point(45, 45);
        Check.due("63 by y is nearer than 45 and 45", q.nearest(0, 0), 2);
        q.point(44, 44);
        Check.due("44 and 44 are nearer than 63", q.nearest(0, 0), 4);
        Check.due("it does not go round", q.nearest(1, 0), 4);
    }

    /** count: "BAD" for what none of 0 to 8 is. */
    private static void countNumbers() {
        for (int what : new int[] {-1, 9, 10, FAR[0], FAR[1], FAR[2], FAR[3]}) {
            Check.due("count " + what, new QuadKeys().count(what), QuadKeys.BAD);
        }
    }

    /** count: each of them from the least to the most that there can be. */
    private static void countFromNoneToFull() {
        QuadKeys q = Check.laid("w1,0;");
        int[] least = {1, 0, 0, 1, 0, 0, 0, 5, 0};
        for (int what = 0; what < least.length; what++) {
            Check.due("least " + what, q.count(what), least[what]);
        }
        Check.tell(q, "w6,1;");
        q.lay();
        for (int i = 0; i < 8; i++) {
            q.box(1, 0, 0, 63, 63);
        }
        for (int i = 0; i < 40; i++) {
            q.point(i, i);
        }
        q.levels(6, 6);
        while (q.write('9') > 0) {
            continue;
        }
        q.fault();
        int[] most = {6, 1, 6, 6, 8, 40, 4096, 200, 2};
        for (int what = 0; what < most.length; what++) {
            Check.due("most " + what, q.count(what), most[what]);
        }
        q.wipe();
        Check.due("no letters", q.count(7), 0);
        Check.tell(q, "w6,2;");
        q.lay();
        Check.due("three causes", q.count(8), 3);
    }
}
