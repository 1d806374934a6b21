/** Promises 26 to 31: at, ordered, search, found, nearest, count. */
public final class PointsTest {
    public static void main(String[] args) {
        at();
        ordered();
        search();
        found();
        nearest();
        count();
        Check.end();
    }

    private static final String TEXT = "w3,0;+b0,0,2,2;p7,7;p0,0;p2,2;p0,0;p3,3;p4,1;p2,2;";

    private static void at() {
        QuadKeys q = Check.laid(TEXT);
        int[] xs = {7, 0, 2, 0, 3, 4, 2};
        int[] ys = {7, 0, 2, 0, 3, 1, 2};
        int[] ranks = {6, 0, 2, 1, 4, 5, 3};
        for (int i = 0; i < xs.length; i++) {
            Check.due("x of " + i, q.at(i, 0), xs[i]);
            Check.due("y of " + i, q.at(i, 1), ys[i]);
            Check.due("place of " + i, q.at(i, 2), ranks[i]);
        }
        int[] wrong = {-1, 7, 40, Integer.MIN_VALUE, Integer.MAX_VALUE};
        for (int n : wrong) {
            Check.due("at i", q.at(n, 0), QuadKeys.BAD);
            Check.due("at what", q.at(0, n), QuadKeys.BAD);
        }
        Check.due("at what", q.at(0, 3), QuadKeys.BAD);
        q.point(0, 1);
        Check.due("place of the new one", q.at(7, 2), 2);
        Check.due("place behind it", q.at(2, 2), 3);
    }

    private static void ordered() {
        QuadKeys q = Check.laid(TEXT);
        int[] order = {1, 3, 2, 6, 4, 5, 0};
        for (int i = 0; i < order.length; i++) {
            Check.due("ordered " + i, q.ordered(i), order[i]);
        }
        Check.due("ordered 7", q.ordered(7), QuadKeys.NONE);
        Check.due("ordered far", q.ordered(Integer.MAX_VALUE), QuadKeys.NONE);
        Check.due("ordered -1", q.ordered(-1), QuadKeys.BAD);
        Check.due("ordered far below", q.ordered(Integer.MIN_VALUE), QuadKeys.BAD);
        q.curve(1);
        int[] turned = {1, 3, 2, 6, 4, 0, 5};
        for (int i = 0; i < turned.length; i++) {
            Check.due("turned " + i, q.ordered(i), turned[i]);
        }
        q.lift(1);
        Check.due("behind a lift", q.ordered(0), 2);
        Check.due("not so many", q.ordered(6), QuadKeys.NONE);
    }

    private static void search() {
        QuadKeys q = Check.laid(TEXT);
        Check.due("seen", q.search(0), 4);
        Check.due("found", q.search(1), 4);
        q.levels(0, 2);
        Check.due("seen by tiles of side 2", q.search(0), 5);
        Check.due("found all the same", q.search(1), 4);
        q.levels(0, 0);
        Check.due("all seen", q.search(0), 7);
        q.box(0, 0, 0, 0, 0);
        Check.due("seen", q.search(0), 7);
        Check.due("fewer found", q.search(1), 2);
        q.drop(0);
        Check.due("none seen", q.search(0), 0);
        Check.due("none found", q.search(1), 0);
        q.box(1, 7, 7, 7, 7);
        Check.due("point 0 seen", q.search(0), 7);
        Check.due("point 0 found", q.search(1), 1);
        int[] wrong = {-1, 2, Integer.MIN_VALUE, Integer.MAX_VALUE};
        for (int n : wrong) {
            Check.due("search what", q.search(n), QuadKeys.BAD);
        }
    }

    private static void found() {
        QuadKeys q = Check.laid(TEXT);
        int[] want = {1, 3, 2, 6};
        for (int i = 0; i < want.length; i++) {
            Check.due("found " + i, q.found(i), want[i]);
        }
        Check.due("found 4", q.found(4), QuadKeys.NONE);
        Check.due("found far", q.found(Integer.MAX_VALUE), QuadKeys.NONE);
        Check.due("found -1", q.found(-1), QuadKeys.BAD);
        Check.due("found far below", q.found(Integer.MIN_VALUE), QuadKeys.BAD);
        q.levels(0, 0);
        Check.due("not by the cover", q.found(4), QuadKeys.NONE);
        q.disc(0, 0, 0, 0);
        Check.due("found 0", q.found(0), 2);
        Check.due("found 2", q.found(2), QuadKeys.NONE);
    }

    private static void nearest() {
        QuadKeys q = Check.laid("w3,1;p1,1;p5,1;p1,1;p7,7;");
        Check.due("at its place, the lowest", q.nearest(1, 1), 0);
        Check.due("as far from both", q.nearest(3, 1), 0);
        Check.due("nearer", q.nearest(4, 1), 1);
        Check.due("by squares", q.nearest(3, 7), 3);
        Check.due("far", q.nearest(7, 5), 3);
        int[] wrong = {-1, 8, Integer.MIN_VALUE, Integer.MAX_VALUE};
        for (int n : wrong) {
            Check.due("nearest x", q.nearest(n, 0), QuadKeys.BAD);
            Check.due("nearest y", q.nearest(0, n), QuadKeys.BAD);
        }
        for (int i = 4; i > 0; i--) {
            Check.due("lift", q.lift(0), i - 1);
        }
        Check.due("none", q.nearest(1, 1), QuadKeys.NONE);
        Check.due("BAD ahead of NONE", q.nearest(8, 1), QuadKeys.BAD);
    }

    private static void count() {
        QuadKeys q = Check.laid("w5,0;+b0,0,1,1;-b0,0,0,0;p1,1;");
        q.levels(2, 3);
        Check.tell(q, "w5,1;+b9,9,8,9;");
        q.fault();
        int[] want = {5, 0, 2, 3, 2, 1, 3, 15, 3};
        for (int what = 0; what < want.length; what++) {
            Check.due("count " + what, q.count(what), want[what]);
        }
        int[] wrong = {-1, 9, Integer.MIN_VALUE, Integer.MAX_VALUE};
        for (int n : wrong) {
            Check.due("count " + n, q.count(n), QuadKeys.BAD);
        }
    }
}
