/** Where the text, its items, faults and causes end: each sentence of the terms, and promises 1 to 6. */
public final class TextEdgesTest {
    private static final String FIRST = "w4,1;+b2,3,9,8;+d10,9,4;-b5,5,6,12;p3,3;p10,10;p5,6;p0,15;p9,4;p3,3;";

    public static void main(String[] args) {
        newObjectHasNoText();
        newObjectIsAsLaid();
        lettersEnd();
        textEndsAtTwoHundred();
        wipeOfNoneAndOfAll();
        figuresOneToThree();
        partingsAndEnd();
        worldJustOnceAheadOfAll();
        worldNumbers();
        partsEightAtMost();
        boxNumbers();
        discNumbers();
        pointNumbers();
        asManyPointsAsATextHolds();
        itemsThatBeginSo();
        faultIsTheFirstOne();
        faultOfNoText();
        layOfNoText();
        layKeepsTheText();
        layTellsAllAnew();
        layRefusedLeavesAll();
        causesNoneAtFirst();
        causesOfTheLatestRefusal();
        causesNoneAgain();
        causeNumbersEnd();
        causesCountItemsAhead();
        causeByWhatIsMetFirst();
        numberIsLookedAtWhenItsEndIsMet();
        Check.end();
    }

    private static QuadKeys told(String text) {
        return Check.tell(new QuadKeys(), text);
    }

    private static void causesAre(QuadKeys q, String of, int... causes) {
        Check.due(of + ": how many causes", q.count(8), causes.length);
        for (int i = 0; i < causes.length; i++) {
            Check.due(of + ": cause " + i, q.cause(i), causes[i]);
        }
        Check.due(of + ": no cause behind", q.cause(causes.length), QuadKeys.NONE);
    }

    private static void refused(String text, int place, int... causes) {
        QuadKeys q = told(text);
        Check.due(text + ": fault", q.fault(), place);
        causesAre(q, text + " by fault", causes);
        QuadKeys other = told(text);
        Check.due(text + ": lay", other.lay(), QuadKeys.NO);
        causesAre(other, text + " by lay", causes);
    }

    private static void taken(String text, int side) {
        QuadKeys q = told(text);
        Check.due(text + ": fault", q.fault(), QuadKeys.NONE);
        causesAre(q, text);
        Check.due(text + ": lay", q.lay(), side);
        causesAre(q, text);
    }

    /** A new object: "THE TEXT is empty". */
    private static void newObjectHasNoText() {
        Check.due("letters", new QuadKeys().count(7), 0);
        Check.due("wipe", new QuadKeys().wipe(), 0);
        Check.due("fault", new QuadKeys().fault(), QuadKeys.NONE);
        Check.due("lay", new QuadKeys().lay(), QuadKeys.NO);
        Check.due("write", new QuadKeys().write('w'), 1);
    }

    /** "LAID is .. (.. at first w4,1;+b2,..)": a new object answers as one with that text laid. */
    private static void newObjectIsAsLaid() {
        QuadKeys q = new QuadKeys();
        QuadKeys laid = Check.laid(FIRST);
        for (int what = 0; what <= 6; what++) {
            Check.due("count " + what, q.count(what), laid.count(what));
        }
        for (int cell = 0; cell < 256; cell++) {
            Check.due("in " + cell, q.in(cell % 16, cell / 16), laid.in(cell % 16, cell / 16));
        }
        for (int i = 0; i < 6; i++) {
            Check.due("x of " + i, q.at(i, 0), laid.at(i, 0));
            Check.due("y of " + i, q.at(i, 1), laid.at(i, 1));
        }
        Check.due("no seventh point", q.at(6, 0), QuadKeys.BAD);
        int[] cells = {48, 89, 80};
        for (int i = 2; i >= 0; i--) {
            Check.due("cells to part " + i, q.count(6), cells[i]);
            Check.due("drop " + i, q.drop(i), i);
        }
    }

    /** write: "A letter (32 to 126, as in ASCII)". */
    private static void lettersEnd() {
        for (int letter = -2; letter <= 400; letter++) {
            QuadKeys q = new QuadKeys();
            boolean is = letter >= 32 && letter <= 126;
            Check.due("write " + letter, q.write(letter), is ? 1 : QuadKeys.BAD);
            Check.due("letters", q.count(7), is ? 1 : 0);
        }
        int[] far = {Integer.MIN_VALUE, Integer.MAX_VALUE, 65536 + 'w', -65536 + 'w', 1 << 30};
        for (int letter : far) {
            Check.due("write " + letter, new QuadKeys().write(letter), QuadKeys.BAD);
        }
    }

    /** "A TEXT is letters (200 at most)"; write: "BAD; FULL", in this order. */
    private static void textEndsAtTwoHundred() {
        QuadKeys q = new QuadKeys();
        for (int i = 1; i <= 200; i++) {
            Check.due("letter " + i, q.write(32 + i % 95), i);
        }
        Check.due("the 201st", q.write('a'), QuadKeys.FULL);
        Check.due("the 201st", q.write(32), QuadKeys.FULL);
        Check.due("the 201st", q.write(126), QuadKeys.FULL);
        Check.due("BAD ahead of FULL", q.write(31), QuadKeys.BAD);
        Check.due("BAD ahead of FULL", q.write(127), QuadKeys.BAD);
        Check.due("letters", q.count(7), 200);
        Check.due("wipe of a full one", q.wipe(), 200);
        Check.due("the first again", q.write('a'), 1);
    }

    /** wipe: "THE TEXT is empty: how long it was", 0 too; what is laid stays. */
    private static void wipeOfNoneAndOfAll() {
        QuadKeys q = new QuadKeys();
        Check.due("wipe of none", q.wipe(), 0);
        Check.due("wipe of none", q.wipe(), 0);
        q.write('w');
        Check.due("wipe of one", q.wipe(), 1);
        Check.due("letters", q.count(7), 0);
        Check.due("fault", q.fault(), QuadKeys.NONE);
        Check.due("D stays", q.count(0), 4);
        Check.due("PARTS stay", q.count(4), 3);
        Check.due("POINTS stay", q.count(5), 6);
    }

    /** "numbers (one to three figures)"; 2 "no figure .. (also where THE TEXT ends), or a fourth". */
    private static void figuresOneToThree() {
        taken("w4,1;p5,5;", 16);
        taken("w4,1;p05,5;", 16);
        taken("w4,1;p005,005;", 16);
        taken("w04,01;", 16);
        taken("w004,001;+b000,001,002,003;-d000,000,063;", 16);
        String[] starts = {"w", "w4,", "w4,1;p", "w4,1;p5,", "w4,1;+b", "w4,1;+b0,", "w4,1;+b0,0,",
            "w4,1;+b0,0,0,", "w4,1;-d", "w4,1;-d0,", "w4,1;-d0,0,"};
        for (String start : starts) {
            int place = start.startsWith("w4,1;") ? 5 : 0;
            int first = place == 0 ? 100 : 101;
            for (String next : new String[] {"", ",", ";", " ", "-", "-1,", "+1,", "x", "/", ":", "0000", "0000,",
                    "1234;"}) {
                refused(start + next, place, first, 2);
            }
        }
    }

    /** "parted by , and a ; behind them"; 3 "no , or ; where it should (likewise)". */
    private static void partingsAndEnd() {
        String[] withComma = {"w4", "w4,1;p5", "w4,1;+b0", "w4,1;+b0,0", "w4,1;+b0,0,0", "w4,1;-d0", "w4,1;-d0,0"};
        for (String start : withComma) {
            int place = start.startsWith("w4,1;") ? 5 : 0;
            for (String next : new String[] {"", ";", " ", " ,", ".", "x", "+", "w"}) {
                refused(start + next, place, place == 0 ? 100 : 101, 3);
            }
        }
        String[] withEnd = {"w4,1", "w4,1;p5,5", "w4,1;+b0,0,0,0", "w4,1;-d0,0,0"};
        for (String start : withEnd) {
            int place = start.startsWith("w4,1;") ? 5 : 0;
            for (String next : new String[] {"", ",", " ", " ;", ":", "x", "p1,1;"}) {
                refused(start + next, place, place == 0 ? 100 : 101, 3);
            }
            taken(start + ";", 16);
        }
    }

    /** "wD,C .. told just once, ahead of all others"; 1 "it stands in the wrong place". */
    private static void worldJustOnceAheadOfAll() {
        taken("w1,0;", 2);
        refused("w4,1;w4,1;", 5, 101, 1);
        refused("w4,1;p1,1;w4,1;", 10, 102, 1);
        refused("w4,1;w", 5, 101, 1);
        refused("p1,1;", 0, 100, 1);
        refused("p1,1;w4,1;", 0, 100, 1);
        refused("+b0,0,0,0;w4,1;", 0, 100, 1);
        refused("-b0,0,0,0;w4,1;", 0, 100, 1);
        refused("+d0,0,0;w4,1;", 0, 100, 1);
        refused("-d0,0,0;", 0, 100, 1);
        refused("p", 0, 100, 1);
    }

    /** "WORLD of D, CURVE C (0, 1)": the numbers that are told and the ones beside them. */
    private static void worldNumbers() {
        for (int n : new int[] {0, 7, 8, 9, 10, 16, 60, 100, 999}) {
            refused("w" + n + ",0;", 0, 100, 4, 20);
            refused("w" + n + ",2;", 0, 100, 4, 20);
        }
        for (int n : new int[] {2, 3, 9, 10, 11, 100, 999}) {
            refused("w1," + n + ";", 0, 100, 4, 21);
            refused("w6," + n + ";", 0, 100, 4, 21);
        }
        for (int d = 1; d <= 6; d++) {
            taken("w" + d + ",0;", 1 << d);
            taken("w" + d + ",1;", 1 << d);
        }
    }

    /** "a PART more (8 at most)", boxes and discs, put on and taken off, together; points may come behind. */
    private static void partsEightAtMost() {
        String[] kinds = {"+b0,0,1,1;", "-d1,1,1;", "-b1,1,1,1;", "+d0,0,63;"};
        StringBuilder text = new StringBuilder("w1,0;");
        for (int i = 0; i < 8; i++) {
            text.append(kinds[i % 4]);
            taken(text.toString(), 2);
        }
        int end = text.length();
        for (String kind : kinds) {
            refused(text + kind, end, 109, 1);
            refused(text + kind.substring(0, 2), end, 109, 1);
        }
        taken(text + "p1,1;", 2);
        refused(text + "p1,1;+b0,0,0,0;", end + 5, 110, 1);
        QuadKeys q = told(text.toString());
        q.box(1, 0, 0, 0, 0);
        Check.due("parts laid ahead count no more", q.lay(), 2);
        Check.due("eight", q.count(4), 8);
        Check.due("full", q.box(1, 0, 0, 0, 0), QuadKeys.FULL);
    }

    /** "BOX .. (X no more than V, Y no more than W)", "(X, Y, V, W less than the SIDE.)". */
    private static void boxNumbers() {
        for (int d = 1; d <= 6; d++) {
            int side = 1 << d;
            int far = side - 1;
            String start = "w" + d + ",1;";
            for (String sign : new String[] {"+b", "-b"}) {
                String box = start + sign;
                taken(box + "0,0," + far + "," + far + ";", side);
                taken(box + "0,0,0,0;", side);
                taken(box + far + "," + far + "," + far + "," + far + ";", side);
                refused(box + side + ",0," + far + ",0;", 5, 101, 4, 20);
                refused(box + "0," + side + "," + far + "," + far + ";", 5, 101, 4, 21);
                refused(box + "0,0," + side + "," + far + ";", 5, 101, 4, 22);
                refused(box + "0,0," + far + "," + side + ";", 5, 101, 4, 23);
                refused(box + far + ",0," + (far - 1) + "," + far + ";", 5, 101, 4, 22);
                refused(box + "0," + far + "," + far + "," + (far - 1) + ";", 5, 101, 4, 23);
                refused(box + far + "," + far + "," + (far - 1) + "," + (far - 1) + ";", 5, 101, 4, 22);
                refused(box + "999,999,999,999;", 5, 101, 4, 20);
            }
        }
    }

    /** "a DISC: .. R (0 to 63)": R may be more than the side. */
    private static void discNumbers() {
        for (int d = 1; d <= 6; d++) {
            int side = 1 << d;
            int far = side - 1;
            String start = "w" + d + ",0;";
            for (String sign : new String[] {"+d", "-d"}) {
                taken(start + sign + "0,0,0;", side);
                taken(start + sign + far + "," + far + ",63;", side);
                refused(start + sign + "0,0,64;", 5, 101, 4, 22);
                refused(start + sign + "0,0,999;", 5, 101, 4, 22);
                refused(start + sign + side + ",0,0;", 5, 101, 4, 20);
                refused(start + sign + "0," + side + ",0;", 5, 101, 4, 21);
                refused(start + sign + side + "," + side + ",64;", 5, 101, 4, 20);
            }
        }
    }

    /** "pX,Y .. (X, Y .. less than the SIDE.)". */
    private static void pointNumbers() {
        for (int d = 1; d <= 6; d++) {
            int side = 1 << d;
            String start = "w" + d + ",1;p";
            taken(start + "0,0;", side);
            taken(start + (side - 1) + "," + (side - 1) + ";", side);
            refused(start + side + ",0;", 5, 101, 4, 20);
            refused(start + "0," + side + ";", 5, 101, 4, 21);
            refused(start + "999,0;", 5, 101, 4, 20);
        }
    }

    private static String points(int many) {
        StringBuilder text = new StringBuilder("w1,0;");
        for (int i = 0; i < many; i++) {
            text.append("p").append(i % 2).append(",1;");
        }
        return text.toString();
    }

    /** "a POINT more (40 at most)": a text of 200 letters holds 39, so that a text never tells one too many. */
    private static void asManyPointsAsATextHolds() {
        String full = points(39);
        Check.due("its length", full.length(), 200);
        QuadKeys q = told(full);
        Check.due("no letter more", q.write('p'), QuadKeys.FULL);
        for (int i = 0; i < 40; i++) {
            q.point(0, 0);
        }
        Check.due("40 points", q.count(5), 40);
        Check.due("fault", q.fault(), QuadKeys.NONE);
        Check.due("lay", q.lay(), 2);
        Check.due("39 points", q.count(5), 39);
        Check.due("x of the last", q.at(38, 0), 0);
        Check.due("the 40th", q.point(0, 0), 39);
        Check.due("the 41st", q.point(0, 0), QuadKeys.FULL);
    }

    /** 1 "no ITEM begins so (+ and - with b or d behind them)". */
    private static void itemsThatBeginSo() {
        for (char letter = 32; letter <= 126; letter++) {
            boolean world = letter == 'w';
            refused("" + letter, 0, 100, world ? 2 : 1);
            boolean point = letter == 'p';
            refused("w4,1;" + letter, 5, 101, point ? 2 : 1);
            boolean part = letter == 'b' || letter == 'd';
            refused("w4,1;+" + letter, 5, 101, part ? 2 : 1);
            refused("w4,1;-" + letter, 5, 101, part ? 2 : 1);
        }
    }

    /** "FAULT: the place of the first letter of the first ITEM that is not so". */
    private static void faultIsTheFirstOne() {
        refused("x", 0, 100, 1);
        refused("w4,1;+b0,0,1,1;p16,0;p0,16;x", 15, 102, 4, 20);
        refused("w4,1;-d15,15,63;+b9,9,9,8;", 16, 102, 4, 23);
        refused("w4,1;p1,1;p2,2;p3,3", 15, 103, 3);
        refused(points(38) + "p1,1", 195, 139, 3);
        refused(points(38) + "p1,2;", 195, 139, 4, 21);
        refused(points(38) + "xxxxx", 195, 139, 1);
        refused(points(38) + "p1,,;", 195, 139, 2);
    }

    /** fault: "NONE (that is no refusal)": of an empty text too. */
    private static void faultOfNoText() {
        QuadKeys q = new QuadKeys();
        Check.due("fault", q.fault(), QuadKeys.NONE);
        causesAre(q, "no refusal");
    }

    /** "LAID is a TEXT .. not empty (NO else"; "Of lay(): .. 5 THE TEXT is empty". */
    private static void layOfNoText() {
        QuadKeys q = new QuadKeys();
        Check.due("lay", q.lay(), QuadKeys.NO);
        causesAre(q, "empty", 5);
        Check.tell(q, "w2,0;");
        Check.due("lay", q.lay(), 4);
        q.wipe();
        Check.due("lay of a wiped one", q.lay(), QuadKeys.NO);
        causesAre(q, "wiped", 5);
        Check.due("what was laid stays", q.count(0), 2);
    }

    /** lay: "THE TEXT stays". */
    private static void layKeepsTheText() {
        QuadKeys q = told("w2,0;p3,3;");
        Check.due("lay", q.lay(), 4);
        Check.due("letters", q.count(7), 10);
        Check.due("one letter more", q.write('p'), 11);
        Check.due("fault behind them", q.fault(), 10);
        Check.due("lay", q.lay(), QuadKeys.NO);
        Check.due("letters", q.count(7), 11);
        for (char letter : "0,1;".toCharArray()) {
            q.write(letter);
        }
        Check.due("lay", q.lay(), 4);
        Check.due("points", q.count(5), 2);
        Check.due("wipe", q.wipe(), 15);
    }

    /** lay: nothing of what was told ahead stays; LEVELS are "0, D by LAID", the CURVE is the text's. */
    private static void layTellsAllAnew() {
        QuadKeys q = new QuadKeys();
        q.curve(0);
        q.levels(2, 3);
        Check.tell(q, "w6,1;");
        Check.due("lay", q.lay(), 64);
        int[] counts = {6, 1, 0, 6, 0, 0, 0, 5, 0};
        for (int what = 0; what < counts.length; what++) {
            Check.due("count " + what, q.count(what), counts[what]);
        }
        q.levels(6, 6);
        q.curve(0);
        q.box(1, 0, 0, 63, 63);
        q.point(63, 63);
        Check.due("lay the same again", q.lay(), 64);
        for (int what = 0; what < counts.length; what++) {
            Check.due("again: count " + what, q.count(what), counts[what]);
        }
        q.levels(5, 6);
        Check.tell(q, "w1,1;");
        Check.due("lay a smaller one", q.lay(), 2);
        Check.due("lo", q.count(2), 0);
        Check.due("hi", q.count(3), 1);
        Check.due("a cell of the bigger one", q.key(2, 0), QuadKeys.BAD);
    }

    /** lay: "NO"; what was laid, and what was told since, stays. */
    private static void layRefusedLeavesAll() {
        QuadKeys q = Check.laid("w3,0;+b0,0,3,3;p7,7;");
        q.curve(1);
        q.levels(1, 2);
        q.disc(0, 0, 0, 0);
        q.point(0, 0);
        Check.tell(q, "w5,0;+b0,0,31,31;p31,31;p31,32;");
        Check.due("lay", q.lay(), QuadKeys.NO);
        int[] counts = {3, 1, 1, 2, 2, 2, 15, 31, 3};
        for (int what = 0; what < counts.length; what++) {
            Check.due("count " + what, q.count(what), counts[what]);
        }
        Check.due("x", q.at(0, 0), 7);
        Check.due("y", q.at(1, 1), 0);
        Check.due("in", q.in(0, 0), 0);
        Check.due("in", q.in(3, 3), 1);
        Check.due("cover", q.cover(1, -1, 0), 3);
    }

    /** CAUSES: "(none at first". */
    private static void causesNoneAtFirst() {
        causesAre(new QuadKeys(), "new");
        causesAre(told("xyz"), "not asked yet");
    }

    /** CAUSES "of the latest refusal of fault(), lay()": what other calls refuse has none. */
    private static void causesOfTheLatestRefusal() {
        QuadKeys q = told("w9,0;");
        q.fault();
        causesAre(q, "first", 100, 4, 20);
        q.write(200);
        q.curve(1);
        q.curve(9);
        q.levels(9, 9);
        q.box(1, 99, 0, 0, 0);
        q.drop(99);
        q.lift(99);
        q.best(0);
        q.cause(-1);
        q.cause(9);
        causesAre(q, "other calls", 100, 4, 20);
        Check.tell(q, "w4");
        causesAre(q, "another text that was not asked for", 100, 4, 20);
        Check.due("lay", q.lay(), QuadKeys.NO);
        causesAre(q, "later", 100, 3);
        q.wipe();
        causesAre(q, "wipe", 100, 3);
        q.lay();
        causesAre(q, "latest", 5);
        Check.tell(q, "w4,1;p");
        q.fault();
        causesAre(q, "latest of all", 101, 2);
    }

    /** CAUSES: "none again when it is not refused". */
    private static void causesNoneAgain() {
        QuadKeys q = told("w4,1");
        q.lay();
        causesAre(q, "refused", 100, 3);
        q.write(';');
        causesAre(q, "mended, not asked for", 100, 3);
        Check.due("fault", q.fault(), QuadKeys.NONE);
        causesAre(q, "by fault");
        q.write('x');
        q.fault();
        causesAre(q, "refused", 101, 1);
        Check.tell(q, "w4,1;");
        Check.due("lay", q.lay(), 16);
        causesAre(q, "by lay");
        q.wipe();
        q.lay();
        causesAre(q, "refused", 5);
        Check.due("fault of none", q.fault(), QuadKeys.NONE);
        causesAre(q, "by fault of none");
    }

    /** cause: "BAD (below 0); NONE: not so many". */
    private static void causeNumbersEnd() {
        for (String text : new String[] {"", "w4,1;", "x", "w7,1;"}) {
            QuadKeys q = told(text);
            q.lay();
            int many = q.count(8);
            Check.due(text + " causes", many, text.isEmpty() ? 1 : text.equals("x") ? 2 : text.equals("w7,1;") ? 3 : 0);
            Check.due(text + " the last", many == 0 || q.cause(many - 1) > 0 ? 1 : 0, 1);
            for (int i : new int[] {many, many + 1, 3, 4, Integer.MAX_VALUE}) {
                Check.due(text + " cause " + i, q.cause(i), QuadKeys.NONE);
            }
            for (int i : new int[] {-1, -2, Integer.MIN_VALUE}) {
                Check.due(text + " cause " + i, q.cause(i), QuadKeys.BAD);
            }
        }
    }

    /** "by a FAULT 100 and how many ITEMS were so ahead", from none to as many as a text holds. */
    private static void causesCountItemsAhead() {
        refused(";", 0, 100, 1);
        for (int many = 0; many <= 38; many++) {
            String text = points(many);
            refused(text + ";", text.length(), 101 + many, 1);
        }
    }

    /** "then by what is met first, letter for letter": of several in one item the first. */
    private static void causeByWhatIsMetFirst() {
        refused("w4444x", 0, 100, 2);
        refused("w9999,9;", 0, 100, 2);
        refused("w9,", 0, 100, 4, 20);
        refused("w9,x", 0, 100, 4, 20);
        refused("w9,1x", 0, 100, 4, 20);
        refused("w4x9;", 0, 100, 3);
        refused("w0,2;", 0, 100, 4, 20);
        refused("w4,1;+b99,99,0,0;", 5, 101, 4, 20);
        refused("w4,1;+b9,9,8,8;", 5, 101, 4, 22);
        refused("w4,1;+b9,9,8,x", 5, 101, 4, 22);
        refused("w4,1;+b9,9,x", 5, 101, 2);
        refused("w4,1;+b9,9x", 5, 101, 3);
        refused("w4,1;+d9,9,9999;", 5, 101, 2);
        refused("w4,1;+d16,x", 5, 101, 4, 20);
        refused("w4,1;+d1,16,x", 5, 101, 4, 21);
    }

    /** 4 "(looked at when what ends it is met ..)": ahead of that a missing , or ; is met. */
    private static void numberIsLookedAtWhenItsEndIsMet() {
        refused("w9", 0, 100, 3);
        refused("w9;", 0, 100, 3);
        refused("w9,", 0, 100, 4, 20);
        refused("w4,9", 0, 100, 3);
        refused("w4,9,", 0, 100, 3);
        refused("w4,9;", 0, 100, 4, 21);
        refused("w4,1;p99", 5, 101, 3);
        refused("w4,1;p99,", 5, 101, 4, 20);
        refused("w4,1;p1,99", 5, 101, 3);
        refused("w4,1;p1,99;", 5, 101, 4, 21);
        refused("w4,1;+b5,5,4", 5, 101, 3);
        refused("w4,1;+b5,5,4,", 5, 101, 4, 22);
        refused("w4,1;+b5,5,5,4", 5, 101, 3);
        refused("w4,1;+b5,5,5,4;", 5, 101, 4, 23);
        refused("w4,1;-d5,5,64", 5, 101, 3);
        refused("w4,1;-d5,5,64;", 5, 101, 4, 22);
    }
}
