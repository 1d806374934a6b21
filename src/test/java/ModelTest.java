import java.util.Random;

/** All promises: runs of calls by chance (always the same ones) on the class and on the model. */
public final class ModelTest {
    private static final String[] ODD = {"w", "p", "+", "-", "+b", "-d", "b", "d", ",", ";", "0", "7", "16", "63",
        "64", "999", "0001", " ", "x", "~", "w4,1;", "p1,1;", ",,", ";;"};

    private final Random random;
    private final String run;
    private final QuadKeys q = new QuadKeys();
    private final Model m = new Model();
    private int calls;

    private ModelTest(int seed) {
        random = new Random(seed);
        run = "run " + seed + ": ";
    }

    public static void main(String[] args) {
        for (int seed = 1; seed <= 260 && Check.allRight(); seed++) {
            new ModelTest(seed).play(seed);
        }
        for (int seed = 1001; seed <= 5000 && Check.allRight(); seed++) {
            new ModelTest(seed).tellOddText();
        }
        Check.end();
    }

    private void play(int seed) {
        if (seed % 4 != 0) {
            tell(goodText(1 + seed % 6));
            due("lay()", q.lay(), m.lay());
        }
        while (calls < 300) {
            int kind = random.nextInt(12);
            if (kind == 0 && calls < 280) {
                told();
            } else if (kind == 1 && seed % 3 == 0) {
                texts();
            } else if (kind < 4) {
                shapes();
            } else if (kind < 6) {
                keys();
            } else if (kind < 10) {
                covers();
            } else {
                points();
            }
        }
        for (int what = 0; what <= 8; what++) {
            due("count(" + what + ")", q.count(what), m.count(what));
        }
    }

    private void due(String call, int got, int want) {
        calls++;
        Check.due(run + call, got, want);
    }

    private int any(int below) {
        int odd = random.nextInt(40);
        if (odd == 0) {
            return new int[] {Integer.MIN_VALUE, Integer.MAX_VALUE, -1, below, below + 1}[random.nextInt(5)];
        }
        return random.nextInt(below);
    }

    private int side() {
        return 1 << m.count(0);
    }

    private int xy() {
        return any(side());
    }

    private void told() {
        int c = any(2);
        due("curve(" + c + ")", q.curve(c), m.curve(c));
        int lo = any(m.count(0) + 1);
        int hi = lo < 0 || lo > m.count(0) ? 3 : lo + any(m.count(0) + 1 - lo);
        due("levels(" + lo + ", " + hi + ")", q.levels(lo, hi), m.levels(lo, hi));
    }

    private void texts() {
        if (calls <= 80) {
            tellOddText();
        }
    }

    private void tellOddText() {
        String text = goodText(1 + random.nextInt(6));
        for (int i = random.nextInt(3); i > 0; i--) {
            int at = random.nextInt(text.length() + 1);
            int cut = Math.min(text.length(), at + random.nextInt(3));
            text = text.substring(0, at) + ODD[random.nextInt(ODD.length)] + text.substring(cut);
        }
        tell(random.nextInt(5) == 0 ? text.substring(0, random.nextInt(text.length() + 1)) : text);
        due("fault()", q.fault(), m.fault());
        askCauses();
        due("lay()", q.lay(), m.lay());
        askCauses();
    }

    private void askCauses() {
        due("count(8)", q.count(8), m.count(8));
        for (int i = 0; i < 3; i++) {
            due("cause(" + i + ")", q.cause(i), m.cause(i));
        }
    }

    private void tell(String text) {
        due("wipe()", q.wipe(), m.wipe());
        for (char letter : text.toCharArray()) {
            due("write(" + letter + ")", q.write(letter), m.write(letter));
        }
    }

    private String goodText(int d) {
        int side = 1 << d;
        StringBuilder text = new StringBuilder("w" + d + "," + random.nextInt(2) + ";");
        for (int i = random.nextInt(5); i > 0; i--) {
            int x = random.nextInt(side);
            int y = random.nextInt(side);
            int kind = random.nextInt(3);
            String start = random.nextInt(4) == 0 ? "-" : "+";
            if (kind == 0) {
                text.append("p" + x + "," + y + ";");
            } else if (kind == 1) {
                text.append(start + "d" + x + "," + y + "," + random.nextInt(side) + ";");
            } else {
                text.append(start + "b" + x + "," + y + "," + (x + random.nextInt(side - x)) + ","
                        + (y + random.nextInt(side - y)) + ";");
            }
        }
        return text.toString();
    }

    private void shapes() {
        int on = random.nextInt(3) == 0 ? 0 : any(2);
        int x = xy();
        int y = xy();
        int v = random.nextInt(4) == 0 || x < 0 || x >= side() ? xy() : x + random.nextInt(side() - x);
        int w = random.nextInt(4) == 0 || y < 0 || y >= side() ? xy() : y + random.nextInt(side() - y);
        int r = any(random.nextInt(4) == 0 ? 64 : side() / 2);
        int i = any(8);
        int j = any(40);
        switch (random.nextInt(6)) {
            case 0 -> due("box(" + on + "," + x + "," + y + "," + v + "," + w + ")", q.box(on, x, y, v, w),
                    m.box(on, x, y, v, w));
            case 1 -> due("disc(" + on + "," + x + "," + y + "," + r + ")", q.disc(on, x, y, r), m.disc(on, x, y, r));
            case 2 -> due("drop(" + i + ")", q.drop(i), m.drop(i));
            case 3 -> due("lift(" + j + ")", q.lift(j), m.lift(j));
            default -> due("point(" + x + "," + y + ")", q.point(x, y), m.point(x, y));
        }
    }

    private void keys() {
        int l = any(m.count(0) + 1);
        int k = any(l < 0 || l > 6 ? 4 : 1 << (2 * l));
        int x = xy();
        int y = xy();
        int v = xy();
        int w = xy();
        int c = any(side() * side());
        int dx = any(3) - 1;
        int dy = any(3) - 1;
        int what = any(7);
        switch (random.nextInt(6)) {
            case 0 -> due("key(" + x + "," + y + ")", q.key(x, y), m.key(x, y));
            case 1 -> due("cell(" + c + "," + what % 3 + ")", q.cell(c, what % 3), m.cell(c, what % 3));
            case 2 -> due("tile(" + l + "," + k + "," + what + ")", q.tile(l, k, what), m.tile(l, k, what));
            case 3 -> due("beside(" + l + "," + k + "," + dx + "," + dy + ")", q.beside(l, k, dx, dy),
                    m.beside(l, k, dx, dy));
            case 4 -> due("common(" + x + "," + y + "," + v + "," + w + ")", q.common(x, y, v, w),
                    m.common(x, y, v, w));
            default -> due("leaps()", q.leaps(), m.leaps());
        }
    }

    private void covers() {
        int which = any(2);
        int what = any(2);
        int i = any(random.nextInt(3) == 0 ? 200 : 20) - 1;
        int g = any(random.nextInt(3) == 0 ? 100 : 12);
        int x = xy();
        int y = xy();
        int tiles = any(14);
        switch (random.nextInt(6)) {
            case 0 -> due("in(" + x + "," + y + ")", q.in(x, y), m.in(x, y));
            case 1 -> due("cover(" + which + "," + i + "," + what + ")", q.cover(which, i, what),
                    m.cover(which, i, what));
            case 2 -> due("rest(" + which + ")", q.rest(which), m.rest(which));
            case 3 -> due("best(" + tiles + ")", q.best(tiles), m.best(tiles));
            case 4 -> due("span(" + which + "," + i + "," + what + ")", q.span(which, i, what),
                    m.span(which, i, what));
            default -> due("joined(" + which + "," + g + ")", q.joined(which, g), m.joined(which, g));
        }
    }

    private void points() {
        int i = any(random.nextInt(2) == 0 ? 40 : 5);
        int what = any(3);
        int x = xy();
        int y = xy();
        switch (random.nextInt(6)) {
            case 0 -> due("at(" + i + "," + what + ")", q.at(i, what), m.at(i, what));
            case 1 -> due("ordered(" + i + ")", q.ordered(i), m.ordered(i));
            case 2 -> due("search(" + what + ")", q.search(what), m.search(what));
            case 3 -> due("found(" + i + ")", q.found(i), m.found(i));
            case 4 -> due("nearest(" + x + "," + y + ")", q.nearest(x, y), m.nearest(x, y));
            default -> due("count(" + what * 3 + ")", q.count(what * 3), m.count(what * 3));
        }
    }
}
