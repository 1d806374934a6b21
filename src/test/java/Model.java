import java.util.ArrayList;
import java.util.Arrays;
import java.util.Collections;
import java.util.List;

/**
 * The document once more, by the slowest and plainest means: whole grids, lists and searches. It
 * shares no thought with the class on how to hold or find things, so that both must be right to agree.
 */
final class Model {
    private static final int NEVER = 1 << 20;

    private final StringBuilder text = new StringBuilder();
    private List<Integer> causes = new ArrayList<>();
    private int d;
    private int c;
    private int lo;
    private int hi;
    private List<int[]> parts = new ArrayList<>();
    private List<int[]> points = new ArrayList<>();

    Model() {
        text.append("w4,1;+b2,3,9,8;+d10,9,4;-b5,5,6,12;p3,3;p10,10;p5,6;p0,15;p9,4;p3,3;");
        lay();
        text.setLength(0);
    }

    // ---- told

    int write(int letter) {
        if (letter < 32 || letter > 126) {
            return QuadKeys.BAD;
        }
        if (text.length() == 200) {
            return QuadKeys.FULL;
        }
        return text.append((char) letter).length();
    }

    int wipe() {
        int was = text.length();
        text.setLength(0);
        return was;
    }

    int fault() {
        return read(new ArrayList<>());
    }

    int lay() {
        List<String> items = new ArrayList<>();
        if (read(items) != QuadKeys.NONE) {
            return QuadKeys.NO;
        }
        if (items.isEmpty()) {
            causes = new ArrayList<>(List.of(5));
            return QuadKeys.NO;
        }
        parts = new ArrayList<>();
        points = new ArrayList<>();
        for (String item : items) {
            int[] n = numbers(item);
            if (item.charAt(0) == 'w') {
                d = n[0];
                c = n[1];
                lo = 0;
                hi = d;
            } else if (item.charAt(0) == 'p') {
                points.add(n);
            } else {
                int on = item.charAt(0) == '+' ? 1 : 0;
                int w = n.length > 3 ? n[3] : -1;
                parts.add(new int[] {on, n[0], n[1], n[2], w});
            }
        }
        return side();
    }

    private static int[] numbers(String item) {
        String[] figures = item.replaceAll("[^0-9,]", "").split(",");
        return Arrays.stream(figures).mapToInt(Integer::parseInt).toArray();
    }

    /** One letter behind the other, the end of the text as a letter too; 'items' takes those that are so. */
    private int read(List<String> items) {
        causes = new ArrayList<>();
        String all = text + "\n";
        int start = 0;
        int side = 0;
        int partsSoFar = 0;
        int pointsSoFar = 0;
        while (start < text.length()) {
            String rest = all.substring(start);
            boolean isPart = rest.startsWith("+b") || rest.startsWith("-b") || rest.startsWith("+d")
                    || rest.startsWith("-d");
            boolean isPoint = rest.startsWith("p");
            boolean isWorld = rest.startsWith("w");
            boolean fits = isWorld && items.isEmpty() || !items.isEmpty() && (isPart && partsSoFar < 8
                    || isPoint && pointsSoFar < 40);
            if (!fits) {
                return refuse(start, items, 1);
            }
            int many = !isPart ? 2 : rest.charAt(1) == 'b' ? 4 : 3;
            int at = isPart ? 2 : 1;
            List<Integer> done = new ArrayList<>();
            String figures = "";
            while (done.size() < many) {
                char letter = rest.charAt(at);
                at++;
                if (letter >= '0' && letter <= '9') {
                    if (figures.length() == 3) {
                        return refuse(start, items, 2);
                    }
                    figures += letter;
                } else if (figures.isEmpty()) {
                    return refuse(start, items, 2);
                } else if (letter != (done.size() == many - 1 ? ';' : ',')) {
                    return refuse(start, items, 3);
                } else {
                    done.add(Integer.parseInt(figures));
                    figures = "";
                    if (!told(isWorld, rest, side, done)) {
                        return refuse(start, items, 4, 19 + done.size());
                    }
                }
            }
            side = isWorld ? 1 << done.get(0) : side;
            partsSoFar += isPart ? 1 : 0;
            pointsSoFar += isPoint ? 1 : 0;
            items.add(rest.substring(0, at));
            start += at;
        }
        return QuadKeys.NONE;
    }

    private static boolean told(boolean isWorld, String rest, int side, List<Integer> done) {
        int n = done.get(done.size() - 1);
        if (isWorld) {
            return done.size() == 1 ? n >= 1 && n <= 6 : n <= 1;
        }
        if (done.size() == 3 && rest.charAt(1) == 'd') {
            return n <= 63;
        }
        return n < side && (done.size() < 3 || n >= done.get(done.size() - 3));
    }

    private int refuse(int start, List<String> items, Integer... why) {
        causes.add(100 + items.size());
        causes.addAll(Arrays.asList(why));
        return start;
    }

    int cause(int i) {
        return i < 0 ? QuadKeys.BAD : i < causes.size() ? causes.get(i) : QuadKeys.NONE;
    }

    int curve(int to) {
        if (to != 0 && to != 1) {
            return QuadKeys.BAD;
        }
        if (to == c) {
            return QuadKeys.NO;
        }
        c = to;
        return 1 - to;
    }

    int levels(int newLo, int newHi) {
        if (newLo < 0 || newHi < newLo || newHi > d) {
            return QuadKeys.BAD;
        }
        if (newLo == lo && newHi == hi) {
            return QuadKeys.NO;
        }
        int were = lo + 10 * hi;
        lo = newLo;
        hi = newHi;
        return were;
    }

    int box(int on, int x, int y, int v, int w) {
        if (on < 0 || on > 1 || noCell(x, y) || noCell(v, w) || x > v || y > w) {
            return QuadKeys.BAD;
        }
        if (parts.size() == 8) {
            return QuadKeys.FULL;
        }
        parts.add(new int[] {on, x, y, v, w});
        return parts.size();
    }

    int disc(int on, int x, int y, int r) {
        if (on < 0 || on > 1 || noCell(x, y) || r < 0 || r > 63) {
            return QuadKeys.BAD;
        }
        if (parts.size() == 8) {
            return QuadKeys.FULL;
        }
        parts.add(new int[] {on, x, y, r, -1});
        return parts.size();
    }

    int drop(int i) {
        if (i < 0 || i >= parts.size()) {
            return QuadKeys.BAD;
        }
        parts.remove(i);
        return parts.size();
    }

    int point(int x, int y) {
        if (noCell(x, y)) {
            return QuadKeys.BAD;
        }
        if (points.size() == 40) {
            return QuadKeys.FULL;
        }
        points.add(new int[] {x, y});
        return points.size() - 1;
    }

    int lift(int i) {
        if (i < 0 || i >= points.size()) {
            return QuadKeys.BAD;
        }
        points.remove(i);
        return points.size();
    }

    // ---- keys

    private int side() {
        return 1 << d;
    }

    private boolean noCell(int x, int y) {
        return x < 0 || y < 0 || x >= side() || y >= side();
    }

    private static int keyIn(int side, int c, int x, int y) {
        if (side == 1) {
            return 0;
        }
        int s = side / 2;
        int u = x / s;
        int v = y / s;
        int figure = c == 0 ? u + 2 * v : new int[] {0, 1, 3, 2}[2 * u + v];
        int a = x % s;
        int b = y % s;
        int behind = c == 0 || figure == 1 || figure == 2 ? keyIn(s, c, a, b)
                : figure == 0 ? keyIn(s, c, b, a) : keyIn(s, c, s - 1 - b, s - 1 - a);
        return figure * s * s + behind;
    }

    int key(int x, int y) {
        return noCell(x, y) ? QuadKeys.BAD : keyIn(side(), c, x, y);
    }

    /** The cells x, y in the order of their keys. */
    private int[][] cells() {
        int[][] cells = new int[side() * side()][];
        for (int x = 0; x < side(); x++) {
            for (int y = 0; y < side(); y++) {
                cells[key(x, y)] = new int[] {x, y};
            }
        }
        return cells;
    }

    int cell(int k, int what) {
        if (k < 0 || k >= side() * side() || what < 0 || what > 1) {
            return QuadKeys.BAD;
        }
        return cells()[k][what];
    }

    private boolean noTile(int l, int k) {
        return l < 0 || l > d || k < 0 || k >= (int) Math.pow(4, l);
    }

    private int size(int l) {
        return (int) Math.pow(4, d - l);
    }

    int tile(int l, int k, int what) {
        if (noTile(l, k) || what < 0 || what > 6) {
            return QuadKeys.BAD;
        }
        int[][] cells = cells();
        int[] answers = {64, 64, 0, k * size(l), (k + 1) * size(l) - 1, 0, 0};
        for (int i = answers[3]; i <= answers[4]; i++) {
            answers[0] = Math.min(answers[0], cells[i][0]);
            answers[1] = Math.min(answers[1], cells[i][1]);
            answers[5] += in(cells[i][0], cells[i][1]);
            for (int[] point : points) {
                answers[6] += Arrays.equals(point, cells[i]) ? 1 : 0;
            }
        }
        answers[2] = (int) Math.sqrt(size(l));
        return answers[what];
    }

    int beside(int l, int k, int dx, int dy) {
        if (noTile(l, k) || Math.abs((long) dx) > 1 || Math.abs((long) dy) > 1 || dx == 0 && dy == 0) {
            return QuadKeys.BAD;
        }
        int s = tile(l, k, 2);
        int there = key(tile(l, k, 0) + dx * s, tile(l, k, 1) + dy * s);
        return there == QuadKeys.BAD ? QuadKeys.NONE : there / size(l);
    }

    int common(int x, int y, int v, int w) {
        if (noCell(x, y) || noCell(v, w)) {
            return QuadKeys.BAD;
        }
        int l = d;
        while (key(x, y) / size(l) != key(v, w) / size(l)) {
            l--;
        }
        return l;
    }

    int leaps() {
        int[][] cells = cells();
        int leaps = 0;
        for (int i = 1; i < cells.length; i++) {
            int far = Math.abs(cells[i][0] - cells[i - 1][0]) + Math.abs(cells[i][1] - cells[i - 1][1]);
            leaps += far == 1 ? 0 : 1;
        }
        return leaps;
    }

    // ---- the shape, covers

    int in(int x, int y) {
        if (noCell(x, y)) {
            return QuadKeys.BAD;
        }
        int in = 0;
        for (int[] p : parts) {
            boolean has = p[4] < 0 ? Math.pow(x - p[1], 2) + Math.pow(y - p[2], 2) <= Math.pow(p[3], 2)
                    : x >= p[1] && x <= p[3] && y >= p[2] && y <= p[4];
            in = has ? p[0] : in;
        }
        return in;
    }

    private boolean[] shape() {
        int[][] cells = cells();
        boolean[] shape = new boolean[cells.length];
        for (int i = 0; i < shape.length; i++) {
            shape[i] = in(cells[i][0], cells[i][1]) == 1;
        }
        return shape;
    }

    private static int many(boolean[] of, int from, int to) {
        int many = 0;
        for (int i = from; i < to; i++) {
            many += of[i] ? 1 : 0;
        }
        return many;
    }

    private boolean[] covered(int which) {
        boolean[] shape = shape();
        boolean[] covered = new boolean[shape.length];
        int size = size(hi);
        for (int i = 0; i < shape.length; i++) {
            int first = i / size * size;
            int many = many(shape, first, first + size);
            covered[i] = which == 0 ? many > 0 : many == size;
        }
        return covered;
    }

    private void collect(boolean[] covered, int l, int k, List<int[]> tiles) {
        int many = many(covered, k * size(l), (k + 1) * size(l));
        if (many == size(l) && l >= lo) {
            tiles.add(new int[] {l, k});
        } else if (many > 0) {
            for (int q = 0; q < 4; q++) {
                collect(covered, l + 1, 4 * k + q, tiles);
            }
        }
    }

    int cover(int which, int i, int what) {
        if (which < 0 || which > 1 || i < -1 || what < 0 || what > 1) {
            return QuadKeys.BAD;
        }
        List<int[]> tiles = new ArrayList<>();
        collect(covered(which), 0, 0, tiles);
        return i == -1 ? tiles.size() : i < tiles.size() ? tiles.get(i)[what] : QuadKeys.NONE;
    }

    int rest(int which) {
        if (which < 0 || which > 1) {
            return QuadKeys.BAD;
        }
        boolean[] shape = shape();
        boolean[] covered = covered(which);
        int rest = 0;
        for (int i = 0; i < shape.length; i++) {
            rest += shape[i] != covered[i] ? 1 : 0;
        }
        return rest;
    }

    /** By exactly so many tiles: the least cells that are in them and not in the shape. */
    private int[] leastBesides(boolean[] shape, int l, int k) {
        int[] least = new int[13];
        Arrays.fill(least, NEVER);
        int many = many(shape, k * size(l), (k + 1) * size(l));
        if (many == 0) {
            least[0] = 0;
            return least;
        }
        if (l < hi) {
            int[][] of = new int[4][];
            for (int q = 0; q < 4; q++) {
                of[q] = leastBesides(shape, l + 1, 4 * k + q);
            }
            for (int a = 0; a <= 12; a++) {
                for (int b = 0; a + b <= 12 && of[0][a] < NEVER; b++) {
                    for (int e = 0; a + b + e <= 12 && of[1][b] < NEVER; e++) {
                        for (int f = 0; a + b + e + f <= 12 && of[2][e] < NEVER; f++) {
                            int sum = of[0][a] + of[1][b] + of[2][e] + of[3][f];
                            least[a + b + e + f] = Math.min(least[a + b + e + f], sum);
                        }
                    }
                }
            }
        }
        if (l >= lo && l <= hi) {
            least[1] = Math.min(least[1], size(l) - many);
        }
        return least;
    }

    int best(int m) {
        if (m < 1 || m > 12) {
            return QuadKeys.BAD;
        }
        int[] least = leastBesides(shape(), 0, 0);
        int best = Arrays.stream(least).limit(m + 1).min().getAsInt();
        return best >= NEVER ? QuadKeys.NONE : best;
    }

    private List<int[]> spans(int which) {
        boolean[] covered = covered(which);
        List<int[]> spans = new ArrayList<>();
        for (int i = 0; i < covered.length; i++) {
            if (covered[i]) {
                int first = i;
                while (i + 1 < covered.length && covered[i + 1]) {
                    i++;
                }
                spans.add(new int[] {first, i});
            }
        }
        return spans;
    }

    int span(int which, int i, int what) {
        if (which < 0 || which > 1 || i < -1 || what < 0 || what > 1) {
            return QuadKeys.BAD;
        }
        List<int[]> spans = spans(which);
        return i == -1 ? spans.size() : i < spans.size() ? spans.get(i)[what] : QuadKeys.NONE;
    }

    int joined(int which, int g) {
        if (which < 0 || which > 1 || g < 1 || g > 99) {
            return QuadKeys.BAD;
        }
        List<int[]> spans = spans(which);
        List<Integer> gaps = new ArrayList<>();
        for (int i = 1; i < spans.size(); i++) {
            gaps.add(spans.get(i)[0] - spans.get(i - 1)[1] - 1);
        }
        Collections.sort(gaps);
        int sum = 0;
        for (int i = 0; i < spans.size() - g; i++) {
            sum += gaps.get(i);
        }
        return sum;
    }

    // ---- points

    private List<Integer> order() {
        List<Integer> order = new ArrayList<>();
        for (int i = 0; i < points.size(); i++) {
            order.add(i);
        }
        order.sort((a, b) -> {
            int byKey = keyOfPoint(a) - keyOfPoint(b);
            return byKey != 0 ? byKey : a - b;
        });
        return order;
    }

    private int keyOfPoint(int i) {
        return key(points.get(i)[0], points.get(i)[1]);
    }

    int at(int i, int what) {
        if (i < 0 || i >= points.size() || what < 0 || what > 2) {
            return QuadKeys.BAD;
        }
        return what == 2 ? order().indexOf(i) : points.get(i)[what];
    }

    int ordered(int i) {
        return i < 0 ? QuadKeys.BAD : i < points.size() ? order().get(i) : QuadKeys.NONE;
    }

    private List<Integer> foundOnes() {
        List<Integer> found = order();
        found.removeIf(i -> in(points.get(i)[0], points.get(i)[1]) == 0);
        return found;
    }

    int search(int what) {
        if (what < 0 || what > 1) {
            return QuadKeys.BAD;
        }
        if (what == 1) {
            return foundOnes().size();
        }
        boolean[] covered = covered(0);
        List<Integer> seen = order();
        seen.removeIf(i -> !covered[keyOfPoint(i)]);
        return seen.size();
    }

    int found(int i) {
        List<Integer> found = foundOnes();
        return i < 0 ? QuadKeys.BAD : i < found.size() ? found.get(i) : QuadKeys.NONE;
    }

    int nearest(int x, int y) {
        if (noCell(x, y)) {
            return QuadKeys.BAD;
        }
        int nearest = QuadKeys.NONE;
        double least = 1e9;
        for (int i = points.size() - 1; i >= 0; i--) {
            double far = Math.pow(points.get(i)[0] - x, 2) + Math.pow(points.get(i)[1] - y, 2);
            if (far <= least) {
                least = far;
                nearest = i;
            }
        }
        return nearest;
    }

    int count(int what) {
        if (what < 0 || what > 8) {
            return QuadKeys.BAD;
        }
        boolean[] shape = shape();
        return new int[] {d, c, lo, hi, parts.size(), points.size(), many(shape, 0, shape.length),
            text.length(), causes.size()}[what];
    }
}
