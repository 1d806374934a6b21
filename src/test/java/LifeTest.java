import java.util.Random;

/**
 * "An object is used for at most 512 calls after it has been made": all of them answer as due, also the
 * 512th; and as no call may ever throw (rule 7 of LANGUAGE.md), neither do those behind it.
 */
public final class LifeTest {
    private static final int[] ODD = {Integer.MIN_VALUE, Integer.MIN_VALUE + 1, -1000000, -65, -64, -5, -4, -3, -2, -1,
        0, 1, 2, 3, 4, 5, 6, 7, 8, 9, 11, 12, 13, 15, 16, 31, 32, 39, 40, 41, 62, 63, 64, 65, 98, 99, 100, 255, 256,
        1023, 1024, 4095, 4096, 4097, 65536, 1 << 30, Integer.MAX_VALUE - 1, Integer.MAX_VALUE};

    public static void main(String[] args) {
        lastCallsAreAnswered();
        everyCallUpToTheLast();
        objectsLiveApart();
        for (int seed = 1; seed <= 60; seed++) {
            noCallThrows(new Random(seed));
        }
        Check.end();
    }

    /** The text filled, wiped and filled again, and the last of 512 calls asks for what was told first. */
    private static void lastCallsAreAnswered() {
        for (int last = 0; last <= 8; last++) {
            QuadKeys q = new QuadKeys();
            int calls = 0;
            for (; calls < 200; calls++) {
                q.write('x');
            }
            q.wipe();
            calls++;
            for (; calls < 401; calls++) {
                q.write('y');
            }
            for (; calls < 510; calls++) {
                q.write('z');
            }
            Check.due("the 511th", q.fault(), 0);
            int[] counts = {4, 1, 0, 4, 3, 6, 80, 200, 2};
            Check.due("the 512th", q.count(last), counts[last]);
        }
    }

    /** 512 calls that change something each time, with the answer of each. */
    private static void everyCallUpToTheLast() {
        QuadKeys q = new QuadKeys();
        for (int i = 0; i < 128; i++) {
            Check.due("curve", q.curve(i % 2), 1 - i % 2);
            Check.due("levels", q.levels(i % 2, 3 + i % 2), i == 0 ? 40 : i % 2 == 1 ? 30 : 41);
            Check.due("box", q.box(1, 0, 0, 15, 15), 4);
            Check.due("drop", q.drop(3), 3);
        }
        QuadKeys points = new QuadKeys();
        for (int i = 0; i < 256; i++) {
            Check.due("point", points.point(i % 16, i / 16), 6);
            Check.due("lift", points.lift(i % 2 == 0 ? 6 : 0), 6);
        }
    }

    /** What is told to one object is not told to another. */
    private static void objectsLiveApart() {
        QuadKeys one = new QuadKeys();
        QuadKeys other = new QuadKeys();
        Check.tell(one, "w2,0;+b0,0,3,3;p1,1;");
        one.lay();
        Check.tell(one, "w9");
        one.fault();
        int[] ofOne = {2, 0, 0, 2, 1, 1, 16, 2, 2};
        int[] ofOther = {4, 1, 0, 4, 3, 6, 80, 0, 0};
        for (int what = 0; what <= 8; what++) {
            Check.due("one: count " + what, one.count(what), ofOne[what]);
            Check.due("other: count " + what, other.count(what), ofOther[what]);
        }
    }

    /** Any numbers in any state, far beyond 512 calls: an exception ends this test. */
    private static void noCallThrows(Random random) {
        QuadKeys q = new QuadKeys();
        int least = 0;
        for (int i = 0; i < 3000; i++) {
            if (random.nextInt(60) == 0) {
                Check.due("wipe", q.wipe() >= 0 ? 1 : 0, 1);
                String text = "w" + (1 + random.nextInt(6)) + "," + random.nextInt(2) + ";+d1,1," + random.nextInt(64)
                        + ";-b0,0,1,1;p1,1;p0,1;";
                for (int j = 0; j < text.length() - random.nextInt(2); j++) {
                    q.write(text.charAt(j));
                }
                q.lay();
            }
            least = Math.min(least, anyCall(random, q));
        }
        Check.due("no answer below NONE", least, QuadKeys.NONE);
    }

    private static int any(Random random) {
        return random.nextInt(3) == 0 ? ODD[random.nextInt(ODD.length)] : random.nextInt(9) - 1;
    }

    private static int anyCall(Random random, QuadKeys q) {
        int a = any(random);
        int b = any(random);
        int c = any(random);
        int d = any(random);
        return switch (random.nextInt(30)) {
            case 0 -> q.write(a);
            case 1 -> q.write(32 + random.nextInt(95));
            case 2 -> q.fault();
            case 3 -> q.lay();
            case 4 -> q.cause(a);
            case 5 -> q.curve(a);
            case 6 -> q.levels(a, b);
            case 7 -> q.box(random.nextInt(2), a, b, c, d);
            case 8 -> q.disc(random.nextInt(2), a, b, c);
            case 9 -> q.drop(a);
            case 10 -> q.point(a, b);
            case 11 -> random.nextInt(4) == 0 ? q.lift(a) : q.lift(40);
            case 12 -> q.key(a, b);
            case 13 -> q.cell(a, b);
            case 14 -> q.tile(a, b, c);
            case 15 -> q.beside(a, b, c, d);
            case 16 -> q.common(a, b, c, d);
            case 17 -> q.leaps();
            case 18 -> q.in(a, b);
            case 19 -> q.cover(random.nextInt(2), a, b);
            case 20 -> q.rest(a);
            case 21 -> q.best(a);
            case 22 -> q.span(random.nextInt(2), a, b);
            case 23 -> q.joined(random.nextInt(2), a);
            case 24 -> q.at(a, b);
            case 25 -> q.ordered(a);
            case 26 -> q.search(a);
            case 27 -> q.found(a);
            case 28 -> q.nearest(a, b);
            default -> q.count(a);
        };
    }
}
