import java.util.Arrays;

/**
 * Squares of a world: keys of cells by two curves, tiles of all sizes, a shape of boxes and discs
 * with its covers and spans, and points in the order of their keys. The document is DOC.md.
 */
public final class QuadKeys {
    public static final int BAD = -1, NO = -2, FULL = -3, NONE = -4;

    private static final int MAX_DEPTH = 6;
    private static final int MAX_SIDE = 64;
    private static final int MAX_KEYS = 4096;
    private static final int MAX_LETTERS = 200;
    private static final int MAX_PARTS = 8;
    private static final int MAX_POINTS = 40;
    private static final int MAX_RADIUS = 63;
    private static final int MAX_TILES = 12;
    private static final int MAX_SPANS = 99;
    private static final String FIRST_TEXT =
            "w4,1;+b2,3,9,8;+d10,9,4;-b5,5,6,12;p3,3;p10,10;p5,6;p0,15;p9,4;p3,3;";

    private final Text text;
    private final Covers covers;
    private Plan plan;
    /** A text is read into this one, so that a refused text leaves the plan as it was. */
    private Plan spare;

    public QuadKeys() {
        text = new Text();
        covers = new Covers();
        plan = new Plan();
        spare = new Plan();
        for (int i = 0; i < FIRST_TEXT.length(); i++) {
            text.append(FIRST_TEXT.charAt(i));
        }
        text.readInto(plan);
        text.clear();
    }

    // ---- told

    public int write(int letter) {
        if (letter < 32 || letter > 126) {
            return BAD;
        }
        return text.append((char) letter) ? text.length : FULL;
    }

    public int wipe() {
        int was = text.length;
        text.clear();
        return was;
    }

    public int fault() {
        return text.readInto(spare);
    }

    public int lay() {
        if (text.readInto(spare) != NONE) {
            return NO;
        }
        if (text.length == 0) {
            text.blameEmptiness();
            return NO;
        }
        Plan old = plan;
        plan = spare;
        spare = old;
        covers.forget();
        return plan.side();
    }

    public int cause(int i) {
        if (i < 0) {
            return BAD;
        }
        return i < text.causeCount ? text.causes[i] : NONE;
    }

    public int curve(int c) {
        if (!isBit(c)) {
            return BAD;
        }
        int was = plan.bend;
        if (c == was) {
            return NO;
        }
        plan.bend = c;
        covers.forget();
        return was;
    }

    public int levels(int lo, int hi) {
        if (lo < 0 || lo > hi || hi > plan.depth) {
            return BAD;
        }
        if (lo == plan.lo && hi == plan.hi) {
            return NO;
        }
        int were = plan.lo + 10 * plan.hi;
        plan.lo = lo;
        plan.hi = hi;
        covers.forget();
        return were;
    }

    public int box(int on, int x, int y, int v, int w) {
        if (!isBit(on) || !plan.hasCell(x, y) || !plan.hasCell(v, w) || v < x || w < y) {
            return BAD;
        }
        if (!plan.addBox(on == 1, x, y, v, w)) {
            return FULL;
        }
        covers.forget();
        return plan.partCount;
    }

    public int disc(int on, int x, int y, int r) {
        if (!isBit(on) || !plan.hasCell(x, y) || r < 0 || r > MAX_RADIUS) {
            return BAD;
        }
        if (!plan.addDisc(on == 1, x, y, r)) {
            return FULL;
        }
        covers.forget();
        return plan.partCount;
    }

    public int drop(int i) {
        if (!plan.removePart(i)) {
            return BAD;
        }
        covers.forget();
        return plan.partCount;
    }

    public int point(int x, int y) {
        if (!plan.hasCell(x, y)) {
            return BAD;
        }
        return plan.points.add(x, y) ? plan.points.size - 1 : FULL;
    }

    public int lift(int i) {
        return plan.points.remove(i) ? plan.points.size : BAD;
    }

    // ---- keys

    public int key(int x, int y) {
        return plan.hasCell(x, y) ? Curve.keyOf(plan.depth, plan.bend, x, y) : BAD;
    }

    public int cell(int k, int what) {
        if (!plan.hasTile(plan.depth, k) || !isBit(what)) {
            return BAD;
        }
        return Curve.half(Curve.placeOf(plan.depth, plan.bend, k), what);
    }

    public int tile(int l, int k, int what) {
        if (!plan.hasTile(l, k) || what < 0 || what > 6) {
            return BAD;
        }
        int side = 1 << (plan.depth - l);
        int size = plan.tileSize(l);
        switch (what) {
            case 0:
            case 1:
                return Curve.half(Curve.placeOf(l, plan.bend, k), what) * side;
            case 2:
                return side;
            case 3:
                return k * size;
            case 4:
                return k * size + size - 1;
            case 5:
                covers.refresh(plan);
                return covers.shape.countIn(k * size, size);
            default:
                return plan.pointsIn(l, k);
        }
    }

    public int beside(int l, int k, int dx, int dy) {
        if (!plan.hasTile(l, k) || !isStep(dx) || !isStep(dy) || (dx == 0 && dy == 0)) {
            return BAD;
        }
        int place = Curve.placeOf(l, plan.bend, k);
        int x = Curve.half(place, 0) + dx;
        int y = Curve.half(place, 1) + dy;
        int side = 1 << l;
        if (x < 0 || x >= side || y < 0 || y >= side) {
            return NONE;
        }
        return Curve.keyOf(l, plan.bend, x, y);
    }

    public int common(int x, int y, int v, int w) {
        if (!plan.hasCell(x, y) || !plan.hasCell(v, w)) {
            return BAD;
        }
        int level = 0;
        for (int l = 1; l <= plan.depth; l++) {
            int shift = plan.depth - l;
            if (x >> shift == v >> shift && y >> shift == w >> shift) {
                level = l;
            }
        }
        return level;
    }

    public int leaps() {
        int sum = 0;
        int keys = plan.tileSize(0);
        int last = Curve.placeOf(plan.depth, plan.bend, 0);
        for (int k = 1; k < keys; k++) {
            int next = Curve.placeOf(plan.depth, plan.bend, k);
            int dx = Curve.half(next, 0) - Curve.half(last, 0);
            int dy = Curve.half(next, 1) - Curve.half(last, 1);
            if (dx * dx + dy * dy != 1) {
                sum++;
            }
            last = next;
        }
        return sum;
    }

    // ---- the shape, covers

    public int in(int x, int y) {
        if (!plan.hasCell(x, y)) {
            return BAD;
        }
        return plan.inShape(x, y) ? 1 : 0;
    }

    public int cover(int which, int i, int what) {
        if (!isBit(which) || i < -1 || !isBit(what)) {
            return BAD;
        }
        covers.refresh(plan);
        return covers.tileOf(plan, covers.keysOf(which), i, what);
    }

    public int rest(int which) {
        if (!isBit(which)) {
            return BAD;
        }
        covers.refresh(plan);
        int keys = plan.tileSize(0);
        return Math.abs(covers.keysOf(which).countIn(0, keys) - covers.shape.countIn(0, keys));
    }

    public int best(int m) {
        if (m < 1 || m > MAX_TILES) {
            return BAD;
        }
        covers.refresh(plan);
        int least = covers.leastCells(plan, m);
        if (least >= Weigher.OUT_OF_REACH) {
            return NONE;
        }
        return least - covers.shape.countIn(0, plan.tileSize(0));
    }

    public int span(int which, int i, int what) {
        if (!isBit(which) || i < -1 || !isBit(what)) {
            return BAD;
        }
        covers.refresh(plan);
        return covers.keysOf(which).runEnd(i, what);
    }

    public int joined(int which, int g) {
        if (!isBit(which) || g < 1 || g > MAX_SPANS) {
            return BAD;
        }
        covers.refresh(plan);
        return covers.gaps.filledFor(covers.keysOf(which), g);
    }

    // ---- points

    public int at(int i, int what) {
        Points points = plan.points;
        if (!points.has(i) || what < 0 || what > 2) {
            return BAD;
        }
        if (what == 2) {
            points.arrange(plan.depth, plan.bend);
            return points.rankOf(i);
        }
        return what == 0 ? points.xs[i] : points.ys[i];
    }

    public int ordered(int i) {
        if (i < 0) {
            return BAD;
        }
        if (!plan.points.has(i)) {
            return NONE;
        }
        plan.points.arrange(plan.depth, plan.bend);
        return plan.points.order[i];
    }

    public int search(int what) {
        if (!isBit(what)) {
            return BAD;
        }
        if (what == 1) {
            return plan.pointsInShape();
        }
        covers.refresh(plan);
        return plan.pointsAmong(covers.outer);
    }

    public int found(int i) {
        return i < 0 ? BAD : plan.pointInShape(i);
    }

    public int nearest(int x, int y) {
        return plan.hasCell(x, y) ? plan.points.nearestTo(x, y) : BAD;
    }

    public int count(int what) {
        switch (what) {
            case 0:
                return plan.depth;
            case 1:
                return plan.bend;
            case 2:
                return plan.lo;
            case 3:
                return plan.hi;
            case 4:
                return plan.partCount;
            case 5:
                return plan.points.size;
            case 6:
                covers.refresh(plan);
                return covers.shape.countIn(0, plan.tileSize(0));
            case 7:
                return text.length;
            case 8:
                return text.causeCount;
            default:
                return BAD;
        }
    }

    private static boolean isBit(int n) {
        return n == 0 || n == 1;
    }

    private static boolean isStep(int n) {
        return n >= -1 && n <= 1;
    }

    /**
     * The two curves. The key of a tile and its place among the tiles of its level go by the same
     * rule as those of a cell in a world of that many levels: both only halve, turn and mirror.
     */
    private static final class Curve {
        static int keyOf(int depth, int bend, int x, int y) {
            int key = 0;
            int restX = x;
            int restY = y;
            for (int level = depth - 1; level >= 0; level--) {
                int half = 1 << level;
                int u = restX >= half ? 1 : 0;
                int v = restY >= half ? 1 : 0;
                int figure = bend == 0 ? u + 2 * v : u == 0 ? v : 3 - v;
                key = 4 * key + figure;
                int inX = restX - u * half;
                int inY = restY - v * half;
                restX = turnedX(bend, figure, half, inX, inY);
                restY = turnedX(bend, figure, half, inY, inX);
            }
            return key;
        }

        /** x and y in one number, so that telling a place makes no object: see half. */
        static int placeOf(int depth, int bend, int key) {
            int x = 0;
            int y = 0;
            int figures = key;
            for (int level = 0; level < depth; level++) {
                int half = 1 << level;
                int figure = figures & 3;
                figures >>= 2;
                int u = bend == 0 ? figure & 1 : figure >> 1;
                int v = bend == 0 ? figure >> 1 : (figure == 1 || figure == 2) ? 1 : 0;
                // A turn undoes itself, so the way back from the key takes the same one.
                int inX = turnedX(bend, figure, half, x, y);
                int inY = turnedX(bend, figure, half, y, x);
                x = inX + u * half;
                y = inY + v * half;
            }
            return x + MAX_SIDE * y;
        }

        static int half(int place, int what) {
            return what == 0 ? place % MAX_SIDE : place / MAX_SIDE;
        }

        /** Both turns treat x and y alike: with x and y the other way round this is the new y. */
        private static int turnedX(int bend, int figure, int side, int x, int y) {
            if (bend == 1 && figure == 0) {
                return y;
            }
            return bend == 1 && figure == 3 ? side - 1 - y : x;
        }
    }

    /** A box from (x, y) to (v, w), or a disc about (x, y) of the radius v. */
    private static final class Part {
        private boolean puts;
        private boolean round;
        private int x;
        private int y;
        private int v;
        private int w;

        void becomeBox(boolean on, int fromX, int fromY, int toX, int toY) {
            puts = on;
            round = false;
            x = fromX;
            y = fromY;
            v = toX;
            w = toY;
        }

        void becomeDisc(boolean on, int midX, int midY, int radius) {
            puts = on;
            round = true;
            x = midX;
            y = midY;
            v = radius;
            w = 0;
        }

        boolean putsOn() {
            return puts;
        }

        boolean has(int cellX, int cellY) {
            if (round) {
                int dx = cellX - x;
                int dy = cellY - y;
                return dx * dx + dy * dy <= v * v;
            }
            return cellX >= x && cellX <= v && cellY >= y && cellY <= w;
        }
    }

    /** Points by their numbers, and their order by keys. */
    private static final class Points {
        final int[] xs = new int[MAX_POINTS];
        final int[] ys = new int[MAX_POINTS];
        final int[] order = new int[MAX_POINTS];
        private final int[] keys = new int[MAX_POINTS];
        int size;

        boolean has(int i) {
            return i >= 0 && i < size;
        }

        boolean add(int x, int y) {
            if (size >= MAX_POINTS) {
                return false;
            }
            xs[size] = x;
            ys[size] = y;
            size++;
            return true;
        }

        boolean remove(int i) {
            if (!has(i)) {
                return false;
            }
            size--;
            for (int j = i; j < size; j++) {
                xs[j] = xs[j + 1];
                ys[j] = ys[j + 1];
            }
            return true;
        }

        /** Points come in by their numbers and pass only greater keys: so equal ones keep theirs. */
        void arrange(int depth, int bend) {
            for (int i = 0; i < size; i++) {
                keys[i] = Curve.keyOf(depth, bend, xs[i], ys[i]);
                int to = i;
                for (; to > 0 && keys[order[to - 1]] > keys[i]; to--) {
                    order[to] = order[to - 1];
                }
                order[to] = i;
            }
        }

        int rankOf(int i) {
            for (int rank = 0; rank < size; rank++) {
                if (order[rank] == i) {
                    return rank;
                }
            }
            return NONE;
        }

        int nearestTo(int x, int y) {
            int nearest = NONE;
            int least = 0;
            for (int i = 0; i < size; i++) {
                int dx = xs[i] - x;
                int dy = ys[i] - y;
                int far = dx * dx + dy * dy;
                if (nearest == NONE || far < least) {
                    nearest = i;
                    least = far;
                }
            }
            return nearest;
        }
    }

    /** All that a text can tell, and the levels. */
    private static final class Plan {
        final Points points = new Points();
        private final Part[] parts = new Part[MAX_PARTS];
        int partCount;
        int depth;
        int bend;
        int lo;
        int hi;

        Plan() {
            for (int i = 0; i < MAX_PARTS; i++) {
                parts[i] = new Part();
            }
            begin(1, 0);
        }

        void begin(int newDepth, int newBend) {
            depth = newDepth;
            bend = newBend;
            lo = 0;
            hi = newDepth;
            partCount = 0;
            points.size = 0;
        }

        int side() {
            return 1 << depth;
        }

        /** How many cells a tile of a level has. */
        int tileSize(int level) {
            return 1 << (2 * (depth - level));
        }

        /** The key of the tile of a level in which a cell's key is. */
        int tileAround(int key, int level) {
            return key >> (2 * (depth - level));
        }

        boolean hasCell(int x, int y) {
            return x >= 0 && x < side() && y >= 0 && y < side();
        }

        boolean hasTile(int level, int key) {
            return level >= 0 && level <= depth && key >= 0 && key < 1 << (2 * level);
        }

        boolean addBox(boolean on, int x, int y, int v, int w) {
            if (partCount >= MAX_PARTS) {
                return false;
            }
            parts[partCount].becomeBox(on, x, y, v, w);
            partCount++;
            return true;
        }

        boolean addDisc(boolean on, int x, int y, int radius) {
            if (partCount >= MAX_PARTS) {
                return false;
            }
            parts[partCount].becomeDisc(on, x, y, radius);
            partCount++;
            return true;
        }

        boolean removePart(int i) {
            if (i < 0 || i >= partCount) {
                return false;
            }
            Part gone = parts[i];
            partCount--;
            for (int j = i; j < partCount; j++) {
                parts[j] = parts[j + 1];
            }
            // Kept behind the others, so that each place always holds a part to use again.
            parts[partCount] = gone;
            return true;
        }

        boolean inShape(int x, int y) {
            for (int i = partCount - 1; i >= 0; i--) {
                if (parts[i].has(x, y)) {
                    return parts[i].putsOn();
                }
            }
            return false;
        }

        int pointsIn(int level, int key) {
            int sum = 0;
            for (int i = 0; i < points.size; i++) {
                if (tileAround(pointKey(i), level) == key) {
                    sum++;
                }
            }
            return sum;
        }

        int pointsAmong(KeySet keys) {
            int sum = 0;
            for (int i = 0; i < points.size; i++) {
                if (keys.has(pointKey(i))) {
                    sum++;
                }
            }
            return sum;
        }

        int pointsInShape() {
            int sum = 0;
            for (int i = 0; i < points.size; i++) {
                if (inShape(points.xs[i], points.ys[i])) {
                    sum++;
                }
            }
            return sum;
        }

        /** The i-th in the order of those in the shape. */
        int pointInShape(int i) {
            points.arrange(depth, bend);
            int ahead = 0;
            for (int rank = 0; rank < points.size; rank++) {
                int number = points.order[rank];
                if (inShape(points.xs[number], points.ys[number])) {
                    if (ahead == i) {
                        return number;
                    }
                    ahead++;
                }
            }
            return NONE;
        }

        private int pointKey(int i) {
            return Curve.keyOf(depth, bend, points.xs[i], points.ys[i]);
        }
    }

    /** The text, and why it was refused. */
    private static final class Text {
        private static final int WRONG_BEGINNING = 1;
        private static final int NO_FIGURE = 2;
        private static final int NO_PARTING = 3;
        private static final int WRONG_NUMBER = 4;
        private static final int EMPTINESS = 5;
        private static final int FIRST_NUMBER = 20;
        private static final int FIRST_ITEM = 100;
        private static final int MAX_FIGURES = 3;

        private final char[] letters = new char[MAX_LETTERS];
        private final int[] numbers = new int[4];
        final int[] causes = new int[3];
        int length;
        int causeCount;
        private int place;

        boolean append(char letter) {
            if (length >= MAX_LETTERS) {
                return false;
            }
            letters[length] = letter;
            length++;
            return true;
        }

        void clear() {
            length = 0;
        }

        void blameEmptiness() {
            causes[0] = EMPTINESS;
            causeCount = 1;
        }

        /** The place of the first item that is not so; what is read ahead of it is in the plan. */
        int readInto(Plan plan) {
            plan.begin(1, 0);
            causeCount = 0;
            place = 0;
            for (int ahead = 0; ahead < MAX_LETTERS && place < length; ahead++) {
                int start = place;
                int why = readItem(plan, ahead);
                if (why != 0) {
                    blame(ahead, why);
                    return start;
                }
            }
            return NONE;
        }

        private void blame(int ahead, int why) {
            boolean byNumber = why >= FIRST_NUMBER;
            causes[0] = FIRST_ITEM + ahead;
            causes[1] = byNumber ? WRONG_NUMBER : why;
            causes[2] = why;
            causeCount = byNumber ? 3 : 2;
        }

        /** 0, or why not: for a wrong number FIRST_NUMBER and which it is. */
        private int readItem(Plan plan, int ahead) {
            char sign = letterHere();
            char kind = readKind();
            if (!mayStand(plan, kind, ahead)) {
                return WRONG_BEGINNING;
            }
            int many = kind == 'b' ? 4 : kind == 'd' ? 3 : 2;
            for (int i = 0; i < many; i++) {
                int why = readNumber(i, i < many - 1 ? ',' : ';');
                if (why != 0) {
                    return why;
                }
                if (!isTold(plan, kind, i)) {
                    return FIRST_NUMBER + i;
                }
            }
            put(plan, sign, kind);
            return 0;
        }

        /** w, b, d, p, or 0 where no item begins so. */
        private char readKind() {
            char first = letterHere();
            place++;
            if (first == 'w' || first == 'p') {
                return first;
            }
            if (first != '+' && first != '-') {
                return 0;
            }
            char second = letterHere();
            place++;
            return second == 'b' || second == 'd' ? second : 0;
        }

        private boolean mayStand(Plan plan, char kind, int ahead) {
            if (kind == 0 || (kind == 'w') != (ahead == 0)) {
                return false;
            }
            if (kind == 'p') {
                return plan.points.size < MAX_POINTS;
            }
            return plan.partCount < MAX_PARTS;
        }

        private int readNumber(int i, char end) {
            int number = 0;
            int figures = 0;
            while (figures < MAX_FIGURES && isFigure(letterHere())) {
                number = 10 * number + letterHere() - '0';
                figures++;
                place++;
            }
            if (figures == 0 || isFigure(letterHere())) {
                return NO_FIGURE;
            }
            if (letterHere() != end) {
                return NO_PARTING;
            }
            place++;
            numbers[i] = number;
            return 0;
        }

        private boolean isTold(Plan plan, char kind, int i) {
            int number = numbers[i];
            if (kind == 'w') {
                return i == 0 ? number >= 1 && number <= MAX_DEPTH : isBit(number);
            }
            if (kind == 'd' && i == 2) {
                return number <= MAX_RADIUS;
            }
            return number < plan.side() && (i < 2 || number >= numbers[i - 2]);
        }

        private void put(Plan plan, char sign, char kind) {
            if (kind == 'w') {
                plan.begin(numbers[0], numbers[1]);
            } else if (kind == 'p') {
                plan.points.add(numbers[0], numbers[1]);
            } else if (kind == 'b') {
                plan.addBox(sign == '+', numbers[0], numbers[1], numbers[2], numbers[3]);
            } else {
                plan.addDisc(sign == '+', numbers[0], numbers[1], numbers[2]);
            }
        }

        /** 0, which no text holds, where the text ends. */
        private char letterHere() {
            return place < length ? letters[place] : 0;
        }

        private static boolean isFigure(char letter) {
            return letter >= '0' && letter <= '9';
        }
    }

    /** A set of keys, a bit for each: so that an object takes little of the room. */
    private static final class KeySet {
        private final long[] words = new long[MAX_KEYS / 64];

        void clear() {
            Arrays.fill(words, 0L);
        }

        void add(int key) {
            if (key >= 0 && key < MAX_KEYS) {
                words[key / 64] |= 1L << (key % 64);
            }
        }

        void addAll(int first, int size) {
            for (int key = first; key < first + size; key++) {
                add(key);
            }
        }

        boolean has(int key) {
            return key >= 0 && key < MAX_KEYS && (words[key / 64] >>> (key % 64) & 1L) != 0;
        }

        /** Of a tile's keys: their number is a power of 4, and their first one a multiple of it. */
        int countIn(int first, int size) {
            if (first < 0 || size < 1 || first > MAX_KEYS - size) {
                return 0;
            }
            if (size < 64) {
                long mask = (1L << size) - 1;
                return Long.bitCount(words[first / 64] >>> (first % 64) & mask);
            }
            int sum = 0;
            for (int i = first / 64; i < (first + size) / 64; i++) {
                sum += Long.bitCount(words[i]);
            }
            return sum;
        }

        /** The first (what = 0) or last key of the i-th run, or how many runs there are (i = -1). */
        int runEnd(int i, int what) {
            int begun = 0;
            for (int key = 0; key < MAX_KEYS; key++) {
                if (!has(key)) {
                    continue;
                }
                boolean begins = !has(key - 1);
                if (begins) {
                    begun++;
                }
                if (begun - 1 == i && (what == 0 ? begins : !has(key + 1))) {
                    return key;
                }
            }
            return i == -1 ? begun : NONE;
        }
    }

    /** Joins runs of keys: all gaps are filled but the widest ones, one fewer than runs may be. */
    private static final class Gaps {
        private final int[] open = new int[MAX_SPANS - 1];
        private int openCount;

        int filledFor(KeySet keys, int runs) {
            openCount = 0;
            int filled = 0;
            int lastKey = NONE;
            for (int key = 0; key < MAX_KEYS; key++) {
                if (!keys.has(key)) {
                    continue;
                }
                if (lastKey != NONE && key - lastKey > 1) {
                    filled += filledBy(key - lastKey - 1, runs - 1);
                }
                lastKey = key;
            }
            return filled;
        }

        /** The gap that is filled now that one more is there: the narrowest, if no more may be open. */
        private int filledBy(int gap, int mayBeOpen) {
            if (openCount < mayBeOpen && openCount < open.length) {
                open[openCount] = gap;
                openCount++;
                return 0;
            }
            int narrowest = gap;
            int whose = NONE;
            for (int i = 0; i < openCount; i++) {
                if (open[i] < narrowest) {
                    narrowest = open[i];
                    whose = i;
                }
            }
            if (whose != NONE) {
                open[whose] = gap;
            }
            return narrowest;
        }
    }

    /** The fewest cells of sets of tiles in which a shape is, by how many tiles a set may have. */
    private static final class Weigher {
        static final int OUT_OF_REACH = 1000000;

        /** For each level the row of the tile of it that is being looked at. */
        private final int[][] rows = new int[MAX_DEPTH + 1][MAX_TILES + 1];

        void weighWorld(Plan plan, KeySet shape) {
            weighTile(rows, plan, shape, 0, 0);
        }

        int leastOf(int tiles) {
            return tiles >= 0 && tiles <= MAX_TILES ? rows[0][tiles] : OUT_OF_REACH;
        }

        private static void weighTile(int[][] rows, Plan plan, KeySet shape, int level, int key) {
            if (level > plan.hi || level > MAX_DEPTH) {
                return;
            }
            int size = plan.tileSize(level);
            int inside = shape.countIn(key * size, size);
            int[] row = rows[level];
            Arrays.fill(row, 0);
            if (inside == 0) {
                return;
            }
            boolean whole = level == plan.hi || (inside == size && level >= plan.lo);
            if (whole) {
                Arrays.fill(row, OUT_OF_REACH);
            }
            // Once even the most tiles are too few, the quarters that are left change nothing.
            for (int q = 0; q < 4 && !whole && row[MAX_TILES] < OUT_OF_REACH; q++) {
                weighTile(rows, plan, shape, level + 1, 4 * key + q);
                addRow(row, rows[level + 1]);
            }
            if (level >= plan.lo) {
                takeWhole(row, size);
            }
        }

        /** From the most tiles down, as each sum needs the old ones of as many tiles or fewer. */
        private static void addRow(int[] row, int[] more) {
            for (int tiles = MAX_TILES; tiles >= 0; tiles--) {
                int least = OUT_OF_REACH;
                for (int t = 0; t <= tiles; t++) {
                    least = Math.min(least, row[tiles - t] + more[t]);
                }
                row[tiles] = least;
            }
        }

        private static void takeWhole(int[] row, int size) {
            for (int tiles = 1; tiles <= MAX_TILES; tiles++) {
                row[tiles] = Math.min(row[tiles], size);
            }
        }
    }

    /** The keys of the shape and of its covers, found anew only when something has changed. */
    private static final class Covers {
        final KeySet shape = new KeySet();
        final KeySet outer = new KeySet();
        final KeySet inner = new KeySet();
        final Gaps gaps = new Gaps();
        private final Weigher weigher = new Weigher();
        private boolean fresh;
        private boolean weighed;

        void forget() {
            fresh = false;
            weighed = false;
        }

        KeySet keysOf(int which) {
            return which == 0 ? outer : inner;
        }

        void refresh(Plan plan) {
            if (fresh) {
                return;
            }
            fresh = true;
            findShape(plan);
            findCovers(plan);
        }

        private void findShape(Plan plan) {
            shape.clear();
            int keys = plan.tileSize(0);
            for (int key = 0; key < keys; key++) {
                int place = Curve.placeOf(plan.depth, plan.bend, key);
                if (plan.inShape(Curve.half(place, 0), Curve.half(place, 1))) {
                    shape.add(key);
                }
            }
        }

        private void findCovers(Plan plan) {
            outer.clear();
            inner.clear();
            int size = plan.tileSize(plan.hi);
            int tiles = 1 << (2 * plan.hi);
            for (int tile = 0; tile < tiles; tile++) {
                int inside = shape.countIn(tile * size, size);
                if (inside > 0) {
                    outer.addAll(tile * size, size);
                }
                if (inside == size) {
                    inner.addAll(tile * size, size);
                }
            }
        }

        /** The level (what = 0) or key of the i-th tile, or how many tiles there are (i = -1). */
        int tileOf(Plan plan, KeySet keys, int i, int what) {
            int size = plan.tileSize(plan.hi);
            int ahead = 0;
            int behindLast = 0;
            for (int first = 0; first < plan.tileSize(0); first += size) {
                int level = first < behindLast ? NONE : widestAt(plan, keys, first);
                if (level == NONE) {
                    continue;
                }
                if (ahead == i) {
                    return what == 0 ? level : plan.tileAround(first, level);
                }
                ahead++;
                behindLast = first + plan.tileSize(level);
            }
            return i == -1 ? ahead : NONE;
        }

        /** The lowest level whose tile begins at a key and is in the cover as a whole. */
        private static int widestAt(Plan plan, KeySet keys, int first) {
            for (int level = plan.lo; level <= plan.hi; level++) {
                int size = plan.tileSize(level);
                boolean begins = (first & (size - 1)) == 0;
                if (begins && keys.countIn(first, size) == size) {
                    return level;
                }
            }
            return NONE;
        }

        int leastCells(Plan plan, int tiles) {
            if (!weighed) {
                weigher.weighWorld(plan, shape);
                weighed = true;
            }
            return weigher.leastOf(tiles);
        }
    }
}
