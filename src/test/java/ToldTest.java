/** Promises 1 to 13: a new object, write, wipe, fault, lay, cause, curve, levels, parts, points. */
public final class ToldTest {
    public static void main(String[] args) {
        newObject();
        write();
        wipe();
        faultsOfBeginnings();
        faultsOfFigures();
        faultsOfPartings();
        faultsOfNumbers();
        faultsBehindItems();
        textsWithoutFault();
        lay();
        causes();
        curve();
        levels();
        box();
        disc();
        drop();
        point();
        lift();
        Check.end();
    }

    private static void newObject() {
        QuadKeys q = new QuadKeys();
        int[] counts = {4, 1, 0, 4, 3, 6, 80, 0, 0};
        for (int what = 0; what < counts.length; what++) {
            Check.due("new: count " + what, q.count(what), counts[what]);
        }
        int[] points = {3, 3, 10, 10, 5, 6, 0, 15, 9, 4, 3, 3};
        for (int i = 0; i < points.length; i++) {
            Check.due("new: at " + i, q.at(i / 2, i % 2), points[i]);
        }
        Check.due("new: fault", q.fault(), QuadKeys.NONE);
        Check.due("new: wipe", q.wipe(), 0);
        Check.due("new: box on", q.in(2, 8), 1);
        Check.due("new: disc on", q.in(14, 9), 1);
        Check.due("new: box off", q.in(6, 5), 0);
    }

    private static void write() {
        QuadKeys q = new QuadKeys();
        int[] bad = {31, 127, 0, -1, 128, 256 + 'w', Integer.MAX_VALUE, Integer.MIN_VALUE};
        for (int letter : bad) {
            Check.due("write " + letter, q.write(letter), QuadKeys.BAD);
        }
        Check.due("count 7", q.count(7), 0);
        for (int i = 1; i <= 200; i++) {
            Check.due("write the letter " + i, q.write(i % 2 == 0 ? 32 : 126), i);
        }
        Check.due("write beyond", q.write('w'), QuadKeys.FULL);
        Check.due("BAD ahead of FULL", q.write(31), QuadKeys.BAD);
        Check.due("count 7", q.count(7), 200);
    }

    private static void wipe() {
        QuadKeys q = Check.tell(new QuadKeys(), "w4,1;");
        Check.due("wipe", q.wipe(), 5);
        Check.due("wipe again", q.wipe(), 0);
        Check.due("count 7", q.count(7), 0);
        Check.due("write", q.write('w'), 1);
        q.fault();
        q.wipe();
        Check.due("wipe leaves causes", q.count(8), 2);
    }

    /** Asks fault() and lay() for the same; the plan stays. */
    private static void refused(String text, int place, int... causes) {
        QuadKeys q = Check.tell(new QuadKeys(), text);
        Check.due(text + ": fault", q.fault(), place);
        causesAre(q, text + " by fault", causes);
        Check.due(text + ": lay", q.lay(), QuadKeys.NO);
        causesAre(q, text + " by lay", causes);
        Check.due(text + ": D stays", q.count(0), 4);
        Check.due(text + ": PARTS stay", q.count(4), 3);
        Check.due(text + ": POINTS stay", q.count(5), 6);
        Check.due(text + ": THE SHAPE stays", q.count(6), 80);
        Check.due(text + ": THE TEXT stays", q.count(7), text.length());
    }

    private static void causesAre(QuadKeys q, String of, int... causes) {
        Check.due(of + ": count of causes", q.count(8), causes.length);
        for (int i = 0; i < causes.length; i++) {
            Check.due(of + ": cause " + i, q.cause(i), causes[i]);
        }
        Check.due(of + ": no more causes", q.cause(causes.length), QuadKeys.NONE);
        Check.due(of + ": cause below 0", q.cause(-1), QuadKeys.BAD);
    }

    private static void faultsOfBeginnings() {
        for (String text : new String[] {" ", "x", "W4,1;", "4", ";", ",", "b0,0,1,1;", "d0,0,1;", "+", "-",
                "p1,1;", "p1,1;w4,1;", "+b0,0,1,1;", "-d0,0,1;", "+b0,0,1,1;w4,1;"}) {
            refused(text, 0, 100, 1);
        }
        for (String text : new String[] {"w4,1;", " ", "x", "+", "-", "+x", "-p", "+w4,1;", "+ b", "b", "d", "P",
                "++b0,0,1,1;", ";"}) {
            refused("w4,1;" + text, 5, 101, 1);
        }
    }

    private static void faultsOfFigures() {
        for (String text : new String[] {"w", "w,", "w;", "wx", "w ", "w-4,1;", "w4,", "w4,;", "w4,x", "w4,,",
                "w4444,1;", "w0004,1;", "w4,0001;", "w4,1111", "w9999"}) {
            refused(text, 0, 100, 2);
        }
        for (String text : new String[] {"p", "p,", "p1,", "p1,;", "p 1,1;", "p1, 1;", "p0001,1;", "+b", "+b,",
                "+b1,1,1,", "+b1,1,1,;", "-d1,1,", "-d1,1,-1;", "-d1,1,0001;"}) {
            refused("w4,1;" + text, 5, 101, 2);
        }
    }

    private static void faultsOfPartings() {
        for (String text : new String[] {"w4", "w444", "w4;", "w4;1;", "w4x", "w4 ,1;", "w4,1", "w4,1,", "w4,1,1;",
                "w4,1 ;", "w4.1;", "w9;", "w9", "w4,7", "w4,7,", "w999x"}) {
            refused(text, 0, 100, 3);
        }
        for (String text : new String[] {"p1", "p1;", "p1,1", "p1,1,", "p99", "p99;", "p1,99,", "+b1,1;", "+b1,1,2;",
                "+b1,1,2,2,", "+b1,1,2,2", "+b5,5,2;", "+d1,1;", "+d1,1,1,", "+d1,1,1", "+d1,1,64"}) {
            refused("w4,1;" + text, 5, 101, 3);
        }
    }

    private static void faultsOfNumbers() {
        refused("w0,1;", 0, 100, 4, 20);
        refused("w7,1;", 0, 100, 4, 20);
        refused("w10,1;", 0, 100, 4, 20);
        refused("w999,1;", 0, 100, 4, 20);
        refused("w7,", 0, 100, 4, 20);
        refused("w7,9;", 0, 100, 4, 20);
        refused("w7,xyz", 0, 100, 4, 20);
        refused("w4,2;", 0, 100, 4, 21);
        refused("w4,010;", 0, 100, 4, 21);
        refused("w4,1;p16,0;", 5, 101, 4, 20);
        refused("w4,1;p0,16;", 5, 101, 4, 21);
        refused("w1,1;p0,2;", 5, 101, 4, 21);
        refused("w6,1;p64,2;", 5, 101, 4, 20);
        refused("w4,1;+b16,0,0,0;", 5, 101, 4, 20);
        refused("w4,1;+b0,16,0,0;", 5, 101, 4, 21);
        refused("w4,1;+b0,0,16,0;", 5, 101, 4, 22);
        refused("w4,1;+b0,0,0,16;", 5, 101, 4, 23);
        refused("w4,1;+b5,5,4,9;", 5, 101, 4, 22);
        refused("w4,1;-b5,5,4,", 5, 101, 4, 22);
        refused("w4,1;-b5,5,9,4;", 5, 101, 4, 23);
        refused("w4,1;+b5,5,4,4;", 5, 101, 4, 22);
        refused("w4,1;+d16,0,0;", 5, 101, 4, 20);
        refused("w4,1;+d0,16,0;", 5, 101, 4, 21);
        refused("w4,1;-d0,0,64;", 5, 101, 4, 22);
        refused("w4,1;-d9,9,100;", 5, 101, 4, 22);
    }

    private static void faultsBehindItems() {
        refused("w4,1;p1,1;p2,2;x", 15, 103, 1);
        refused("w4,1;+b1,1,2,2;-d3,3,3;p1", 23, 103, 3);
        refused("w4,1;p1,1; p2,2;", 10, 102, 1);
        refused("w4,1;;", 5, 101, 1);
        StringBuilder parts = new StringBuilder("w3,0;");
        for (int i = 0; i < 8; i++) {
            parts.append(i % 2 == 0 ? "+d1,1,0;" : "-b1,1,1,1;");
        }
        int end = parts.length();
        Check.due("8 parts", Check.tell(new QuadKeys(), parts.toString()).fault(), QuadKeys.NONE);
        refused(parts + "+b0,0,0,0;", end, 109, 1);
        refused(parts + "-d", end, 109, 1);
        refused(parts + "p1,1;p1,1;+", end + 10, 111, 1);
    }

    private static void textsWithoutFault() {
        for (String text : new String[] {"w1,0;", "w6,1;", "w004,001;", "w4,1;p015,000;", "w4,1;+b3,3,3,3;",
                "w4,1;-b0,0,15,15;", "w1,1;+d1,1,63;", "w1,1;-d1,1,0;", "w6,0;p63,63;"}) {
            QuadKeys q = Check.tell(new QuadKeys(), text);
            Check.due(text + ": fault", q.fault(), QuadKeys.NONE);
            Check.due(text + ": causes", q.count(8), 0);
            Check.due(text + ": D stays till lay", q.count(0), 4);
            Check.due(text + ": lay", q.lay(), 1L << q.count(0));
        }
        StringBuilder points = new StringBuilder("w6,0;");
        for (int i = 0; i < 39; i++) {
            points.append("p1,1;");
        }
        QuadKeys q = Check.tell(new QuadKeys(), points.toString());
        Check.due("39 points", q.fault(), QuadKeys.NONE);
        Check.due("39 points laid", q.lay(), 64);
        Check.due("39 points counted", q.count(5), 39);
    }

    private static void lay() {
        QuadKeys q = new QuadKeys();
        Check.due("lay of none", q.lay(), QuadKeys.NO);
        causesAre(q, "lay of none", 5);
        Check.due("D stays", q.count(0), 4);
        Check.due("fault of none", q.fault(), QuadKeys.NONE);
        causesAre(q, "fault of none");
        q.levels(1, 2);
        Check.tell(q, "w5,0;+b1,2,3,4;-d2,3,1;p7,8;p31,30;");
        Check.due("lay", q.lay(), 32);
        int[] counts = {5, 0, 0, 5, 2, 2, 4, 35, 0};
        for (int what = 0; what < counts.length; what++) {
            Check.due("laid: count " + what, q.count(what), counts[what]);
        }
        Check.due("laid: in", q.in(1, 2), 1);
        Check.due("laid: taken off", q.in(2, 3), 0);
        Check.due("laid: at", q.at(1, 1), 30);
        q.wipe();
        Check.tell(q, "w1,0;+b0,0,1,1;");
        Check.due("lay a smaller one", q.lay(), 2);
        Check.due("its cells", q.count(6), 4);
        Check.due("its cover", q.cover(0, -1, 0), 1);
        Check.due("its best", q.best(1), 0);
        Check.tell(q, "w5,0;+b1,2,3,4;-d2,3,1;p7,8;p31,30;");
        Check.due("lay the first", q.lay(), 32);
        q.box(1, 31, 31, 31, 31);
        q.levels(3, 3);
        q.curve(1);
        Check.due("lay again", q.lay(), 32);
        for (int what = 0; what < counts.length; what++) {
            Check.due("laid again: count " + what, q.count(what), counts[what]);
        }
    }

    private static void causes() {
        QuadKeys q = Check.tell(new QuadKeys(), "w9,1;");
        causesAre(q, "not asked yet");
        Check.due("fault", q.fault(), 0);
        causesAre(q, "by fault", 100, 4, 20);
        q.write(31);
        q.curve(7);
        q.wipe();
        causesAre(q, "other refusals are none", 100, 4, 20);
        Check.due("lay", q.lay(), QuadKeys.NO);
        causesAre(q, "the latest", 5);
        Check.tell(q, "w4,1;");
        causesAre(q, "still", 5);
        Check.due("lay", q.lay(), 16);
        causesAre(q, "not refused");
        Check.due("cause far below", q.cause(Integer.MIN_VALUE), QuadKeys.BAD);
        Check.due("cause far beyond", q.cause(Integer.MAX_VALUE), QuadKeys.NONE);
    }

    private static void curve() {
        QuadKeys q = new QuadKeys();
        Check.due("curve so", q.curve(1), QuadKeys.NO);
        Check.due("curve 2", q.curve(2), QuadKeys.BAD);
        Check.due("curve -1", q.curve(-1), QuadKeys.BAD);
        Check.due("curve 0", q.curve(0), 1);
        Check.due("count", q.count(1), 0);
        Check.due("key", q.key(0, 15), 170);
        Check.due("curve so", q.curve(0), QuadKeys.NO);
        Check.due("curve 1", q.curve(1), 0);
        Check.due("key", q.key(0, 15), 85);
    }

    private static void levels() {
        QuadKeys q = new QuadKeys();
        Check.due("levels so", q.levels(0, 4), QuadKeys.NO);
        int[][] bad = {{-1, 4}, {0, 5}, {3, 2}, {5, 5}, {-1, -1}, {Integer.MIN_VALUE, Integer.MAX_VALUE}};
        for (int[] pair : bad) {
            Check.due("levels " + pair[0] + ", " + pair[1], q.levels(pair[0], pair[1]), QuadKeys.BAD);
        }
        Check.due("levels 2, 2", q.levels(2, 2), 40);
        Check.due("levels 1, 3", q.levels(1, 3), 22);
        Check.due("levels 1, 4", q.levels(1, 4), 31);
        Check.due("levels 0, 4", q.levels(0, 4), 41);
        Check.due("levels 0, 0", q.levels(0, 0), 40);
        Check.due("lo", q.count(2), 0);
        Check.due("hi", q.count(3), 0);
        Check.due("levels so", q.levels(0, 0), QuadKeys.NO);
    }

    private static void box() {
        QuadKeys q = Check.laid("w3,0;");
        int[][] bad = {{2, 0, 0, 1, 1}, {-1, 0, 0, 1, 1}, {1, -1, 0, 1, 1}, {1, 0, -1, 1, 1}, {1, 0, 0, 8, 1},
                {1, 0, 0, 1, 8}, {1, 8, 0, 8, 1}, {1, 2, 0, 1, 1}, {1, 0, 2, 1, 1}, {0, 0, 0, -1, 1}};
        for (int[] b : bad) {
            Check.due("bad box", q.box(b[0], b[1], b[2], b[3], b[4]), QuadKeys.BAD);
        }
        Check.due("box", q.box(1, 1, 2, 5, 3), 1);
        Check.due("cells", q.count(6), 10);
        Check.due("box off", q.box(0, 5, 3, 7, 7), 2);
        Check.due("cells", q.count(6), 9);
        Check.due("one cell", q.box(1, 7, 7, 7, 7), 3);
        Check.due("cells", q.count(6), 10);
        for (int i = 4; i <= 8; i++) {
            Check.due("box more", q.box(1, 0, 0, 7, 7), i);
        }
        Check.due("too many", q.box(1, 0, 0, 7, 7), QuadKeys.FULL);
        Check.due("BAD ahead of FULL", q.box(1, 0, 0, 8, 7), QuadKeys.BAD);
        Check.due("parts", q.count(4), 8);
    }

    private static void disc() {
        QuadKeys q = Check.laid("w3,0;");
        int[][] bad = {{2, 0, 0, 1}, {-1, 0, 0, 1}, {1, -1, 0, 1}, {1, 0, 8, 1}, {1, 8, 0, 1}, {1, 0, -1, 1},
                {1, 0, 0, -1}, {1, 0, 0, 64}, {1, 0, 0, Integer.MAX_VALUE}};
        for (int[] d : bad) {
            Check.due("bad disc", q.disc(d[0], d[1], d[2], d[3]), QuadKeys.BAD);
        }
        Check.due("disc", q.disc(1, 3, 3, 2), 1);
        Check.due("cells", q.count(6), 13);
        Check.due("edge", q.in(3, 5), 1);
        Check.due("beyond the edge", q.in(4, 5), 0);
        Check.due("disc off", q.disc(0, 3, 3, 0), 2);
        Check.due("cells", q.count(6), 12);
        Check.due("cut by the world", q.disc(1, 7, 7, 1), 3);
        Check.due("cells", q.count(6), 15);
        Check.due("all", q.disc(1, 0, 0, 63), 4);
        Check.due("cells", q.count(6), 64);
        for (int i = 5; i <= 8; i++) {
            Check.due("disc more", q.disc(0, 0, 0, 0), i);
        }
        Check.due("too many", q.disc(1, 0, 0, 7), QuadKeys.FULL);
        Check.due("BAD ahead of FULL", q.disc(1, 0, 0, 64), QuadKeys.BAD);
    }

    private static void drop() {
        QuadKeys q = Check.laid("w3,0;+b0,0,3,3;-b0,0,1,1;+b1,1,1,1;");
        Check.due("cells", q.count(6), 13);
        Check.due("drop -1", q.drop(-1), QuadKeys.BAD);
        Check.due("drop 3", q.drop(3), QuadKeys.BAD);
        Check.due("drop the middle", q.drop(1), 2);
        Check.due("cells", q.count(6), 16);
        Check.due("drop 2", q.drop(2), QuadKeys.BAD);
        Check.due("drop the first", q.drop(0), 1);
        Check.due("cells", q.count(6), 1);
        Check.due("in", q.in(1, 1), 1);
        Check.due("box", q.box(0, 1, 1, 1, 1), 2);
        Check.due("cells", q.count(6), 0);
        Check.due("drop the last", q.drop(1), 1);
        Check.due("cells", q.count(6), 1);
        Check.due("drop", q.drop(0), 0);
        Check.due("drop of none", q.drop(0), QuadKeys.BAD);
        for (int i = 1; i <= 8; i++) {
            Check.due("boxes as many as can be", q.box(1, i - 1, 0, i - 1, 0), i);
        }
        Check.due("cells", q.count(6), 8);
        Check.due("drop", q.drop(7), 7);
        Check.due("box", q.box(1, 0, 7, 7, 7), 8);
        Check.due("cells", q.count(6), 15);
    }

    private static void point() {
        QuadKeys q = Check.laid("w2,0;");
        int[][] bad = {{-1, 0}, {0, -1}, {4, 0}, {0, 4}, {Integer.MAX_VALUE, 0}};
        for (int[] p : bad) {
            Check.due("bad point", q.point(p[0], p[1]), QuadKeys.BAD);
        }
        for (int i = 0; i < 40; i++) {
            Check.due("point " + i, q.point(i % 4, i / 4 % 4), i);
        }
        Check.due("too many", q.point(0, 0), QuadKeys.FULL);
        Check.due("BAD ahead of FULL", q.point(4, 0), QuadKeys.BAD);
        Check.due("count", q.count(5), 40);
        Check.due("lift the first of 40", q.lift(0), 39);
        Check.due("x of the last", q.at(38, 0), 3);
        Check.due("y of the last", q.at(38, 1), 1);
        Check.due("point again", q.point(2, 2), 39);
    }

    private static void lift() {
        QuadKeys q = Check.laid("w3,0;p1,2;p3,4;p5,6;");
        Check.due("lift -1", q.lift(-1), QuadKeys.BAD);
        Check.due("lift 3", q.lift(3), QuadKeys.BAD);
        Check.due("lift the middle", q.lift(1), 2);
        Check.due("x", q.at(1, 0), 5);
        Check.due("y", q.at(1, 1), 6);
        Check.due("lift 2", q.lift(2), QuadKeys.BAD);
        Check.due("lift the first", q.lift(0), 1);
        Check.due("x", q.at(0, 0), 5);
        Check.due("lift", q.lift(0), 0);
        Check.due("lift of none", q.lift(0), QuadKeys.BAD);
        Check.due("point", q.point(7, 7), 0);
    }
}
