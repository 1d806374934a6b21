import java.util.ArrayList;
import java.util.List;

/**
 * "BAD .. NO .. NONE .. FULL. Of several the first in the order told; nothing changes then (but CAUSES)":
 * each call that is refused is made on an object of its own, which then must answer every question as one
 * does on which it was not made.
 */
public final class RefusalsTest {
    private static final int BAD = QuadKeys.BAD;
    private static final int NO = QuadKeys.NO;
    private static final int FULL = QuadKeys.FULL;
    private static final int NONE = QuadKeys.NONE;
    private static final int LOW = Integer.MIN_VALUE;
    private static final int HIGH = Integer.MAX_VALUE;

    private interface Call {
        int on(QuadKeys q);
    }

    /** How an object is made ready: a text that is laid, calls behind it, and a text that is left standing. */
    private record State(String laid, Call then, String left) {
        QuadKeys ready() {
            QuadKeys q = new QuadKeys();
            if (!laid.isEmpty()) {
                put(q, laid);
                q.lay();
                q.wipe();
            }
            then.on(q);
            put(q, left);
            return q;
        }
    }

    private static final List<Call> QUESTIONS = new ArrayList<>();

    public static void main(String[] args) {
        gatherQuestions();
        State fresh = new State("", q -> 0, "");
        ofToldOnes(fresh);
        ofKeys(fresh);
        ofCovers(fresh);
        ofPoints(fresh);
        State told = new State("w3,0;+b0,0,6,6;-d3,3,2;p1,1;p6,6;p3,3;", q -> q.levels(1, 2) + q.curve(1),
                "w2,0;p3,3;");
        ofSmallWorld(told);
        ofFaultyText();
        ofFullOnes();
        ofBareWorld();
        ofNoSet();
        answersChangeNothing(told);
        Check.end();
    }

    private static void put(QuadKeys q, String text) {
        for (int i = 0; i < text.length(); i++) {
            q.write(text.charAt(i));
        }
    }

    /** All that can be asked of a world up to D = 4 with 40 points, the standing text by laying it last of all. */
    private static void gatherQuestions() {
        for (int i = 0; i <= 8; i++) {
            int n = i;
            QUESTIONS.add(q -> q.count(n));
        }
        for (int i = 0; i < 256; i++) {
            int n = i;
            QUESTIONS.add(q -> q.in(n % 16, n / 16));
        }
        for (int i = 0; i <= 40; i++) {
            int n = i;
            QUESTIONS.add(q -> 1000 * q.at(n, 0) + q.at(n, 1));
            QUESTIONS.add(q -> 1000 * q.ordered(n) + q.found(n));
        }
        for (int i = -1; i < 45; i++) {
            int n = i;
            QUESTIONS.add(q -> 1000 * q.cover(0, n, 0) + q.cover(0, n, 1));
            QUESTIONS.add(q -> 1000 * q.span(1, n, 0) + q.span(1, n, 1));
        }
        for (int i = 1; i <= 12; i++) {
            int n = i;
            QUESTIONS.add(q -> 1000 * q.best(n) + q.joined(0, n));
        }
        QUESTIONS.add(q -> 1000 * q.rest(0) + q.rest(1));
        QUESTIONS.add(q -> 1000 * q.search(0) + q.search(1));
        QUESTIONS.add(q -> 1000 * q.key(1, 0) + q.leaps());
        QUESTIONS.add(q -> 1000 * q.tile(0, 0, 5) + q.tile(0, 0, 6));
        QUESTIONS.add(q -> 1000 * q.nearest(0, 0) + q.nearest(1, 1));
        QUESTIONS.add(QuadKeys::fault);
        QUESTIONS.add(q -> q.lay() + 1000 * q.count(4) + 10000 * q.count(5) + 1000000 * q.count(6));
    }

    /** Answers to all questions, no more than some 200 calls of one object, so that it stays within its 512. */
    private static int[] askedBehind(State state, Call call, int due, String of) {
        int[] answers = new int[QUESTIONS.size() + 3];
        QuadKeys q = null;
        for (int i = 0; i < QUESTIONS.size(); i++) {
            if (i % 100 == 0) {
                q = state.ready();
                Check.due(of, call.on(q), due);
                for (int cause = 0; cause < 3; cause++) {
                    answers[QUESTIONS.size() + cause] = q.cause(cause);
                }
            }
            answers[i] = QUESTIONS.get(i).on(q);
        }
        return answers;
    }

    private static void changesNothing(State state, String of, int due, Call call, boolean tellsCauses) {
        int[] with = askedBehind(state, call, due, of);
        int[] without = askedBehind(state, q -> 0, 0, of);
        for (int i = 0; i < with.length; i++) {
            boolean byCauses = i == 8 || i >= QUESTIONS.size();
            if (!(tellsCauses && byCauses)) {
                Check.due(of + ": question " + i + " behind it", with[i], without[i]);
            }
        }
    }

    private static void refused(State state, String of, int due, Call call) {
        changesNothing(state, of, due, call, false);
    }

    private static void ofToldOnes(State s) {
        refused(s, "write(31)", BAD, q -> q.write(31));
        refused(s, "write(127)", BAD, q -> q.write(127));
        refused(s, "cause(-1)", BAD, q -> q.cause(-1));
        refused(s, "cause(0)", NONE, q -> q.cause(0));
        refused(s, "curve(-1)", BAD, q -> q.curve(-1));
        refused(s, "curve(2)", BAD, q -> q.curve(2));
        refused(s, "curve(1)", NO, q -> q.curve(1));
        refused(s, "levels(-1, 4)", BAD, q -> q.levels(-1, 4));
        refused(s, "levels(0, 5)", BAD, q -> q.levels(0, 5));
        refused(s, "levels(3, 2)", BAD, q -> q.levels(3, 2));
        refused(s, "levels(0, 4)", NO, q -> q.levels(0, 4));
        refused(s, "box(2, 0, 0, 15, 15)", BAD, q -> q.box(2, 0, 0, 15, 15));
        refused(s, "box(1, -1, 0, 15, 15)", BAD, q -> q.box(1, -1, 0, 15, 15));
        refused(s, "box(1, 0, 0, 16, 15)", BAD, q -> q.box(1, 0, 0, 16, 15));
        refused(s, "box(1, 0, 9, 15, 8)", BAD, q -> q.box(1, 0, 9, 15, 8));
        refused(s, "disc(-1, 0, 0, 63)", BAD, q -> q.disc(-1, 0, 0, 63));
        refused(s, "disc(1, 0, 16, 63)", BAD, q -> q.disc(1, 0, 16, 63));
        refused(s, "disc(1, 0, 0, 64)", BAD, q -> q.disc(1, 0, 0, 64));
        refused(s, "disc(1, 0, 0, -1)", BAD, q -> q.disc(1, 0, 0, -1));
        refused(s, "drop(-1)", BAD, q -> q.drop(-1));
        refused(s, "drop(3)", BAD, q -> q.drop(3));
        refused(s, "point(16, 0)", BAD, q -> q.point(16, 0));
        refused(s, "point(0, -1)", BAD, q -> q.point(0, -1));
        refused(s, "lift(-1)", BAD, q -> q.lift(-1));
        refused(s, "lift(6)", BAD, q -> q.lift(6));
        changesNothing(s, "lay()", NO, QuadKeys::lay, true);
        refused(s, "fault()", NONE, QuadKeys::fault);
    }

    private static void ofKeys(State s) {
        refused(s, "key(16, 0)", BAD, q -> q.key(16, 0));
        refused(s, "cell(256, 0)", BAD, q -> q.cell(256, 0));
        refused(s, "cell(0, 2)", BAD, q -> q.cell(0, 2));
        refused(s, "tile(5, 0, 0)", BAD, q -> q.tile(5, 0, 0));
        refused(s, "tile(4, 256, 5)", BAD, q -> q.tile(4, 256, 5));
        refused(s, "tile(0, 0, 7)", BAD, q -> q.tile(0, 0, 7));
        refused(s, "beside(5, 0, 1, 0)", BAD, q -> q.beside(5, 0, 1, 0));
        refused(s, "beside(0, 0, 0, 0)", BAD, q -> q.beside(0, 0, 0, 0));
        refused(s, "beside(0, 0, 2, 0)", BAD, q -> q.beside(0, 0, 2, 0));
        refused(s, "beside(0, 0, 1, 0)", NONE, q -> q.beside(0, 0, 1, 0));
        refused(s, "common(0, 0, 0, 16)", BAD, q -> q.common(0, 0, 0, 16));
    }

    private static void ofCovers(State s) {
        refused(s, "in(-1, 0)", BAD, q -> q.in(-1, 0));
        refused(s, "cover(2, 0, 0)", BAD, q -> q.cover(2, 0, 0));
        refused(s, "cover(0, -2, 0)", BAD, q -> q.cover(0, -2, 0));
        refused(s, "cover(0, 99, 2)", BAD, q -> q.cover(0, 99, 2));
        refused(s, "cover(0, 44, 0)", NONE, q -> q.cover(0, 44, 0));
        refused(s, "rest(2)", BAD, q -> q.rest(2));
        refused(s, "best(0)", BAD, q -> q.best(0));
        refused(s, "best(13)", BAD, q -> q.best(13));
        refused(s, "span(-1, 0, 0)", BAD, q -> q.span(-1, 0, 0));
        refused(s, "span(0, -2, 0)", BAD, q -> q.span(0, -2, 0));
        refused(s, "span(0, 99, 2)", BAD, q -> q.span(0, 99, 2));
        refused(s, "span(0, 17, 0)", NONE, q -> q.span(0, 17, 0));
        refused(s, "joined(2, 1)", BAD, q -> q.joined(2, 1));
        refused(s, "joined(0, 0)", BAD, q -> q.joined(0, 0));
        refused(s, "joined(0, 100)", BAD, q -> q.joined(0, 100));
    }

    private static void ofPoints(State s) {
        refused(s, "at(6, 0)", BAD, q -> q.at(6, 0));
        refused(s, "at(-1, 2)", BAD, q -> q.at(-1, 2));
        refused(s, "at(0, 3)", BAD, q -> q.at(0, 3));
        refused(s, "ordered(-1)", BAD, q -> q.ordered(-1));
        refused(s, "ordered(6)", NONE, q -> q.ordered(6));
        refused(s, "search(2)", BAD, q -> q.search(2));
        refused(s, "found(-1)", BAD, q -> q.found(-1));
        refused(s, "found(4)", NONE, q -> q.found(4));
        refused(s, "nearest(16, 0)", BAD, q -> q.nearest(16, 0));
        refused(s, "count(9)", BAD, q -> q.count(9));
        refused(s, "count(-1)", BAD, q -> q.count(-1));
    }

    /** Numbers that a bigger world, or the one that a standing text tells, would have. */
    private static void ofSmallWorld(State s) {
        refused(s, "key(8, 0)", BAD, q -> q.key(8, 0));
        refused(s, "box(1, 0, 0, 8, 0)", BAD, q -> q.box(1, 0, 0, 8, 0));
        refused(s, "disc(1, 8, 0, 0)", BAD, q -> q.disc(1, 8, 0, 0));
        refused(s, "point(8, 8)", BAD, q -> q.point(8, 8));
        refused(s, "levels(1, 4)", BAD, q -> q.levels(1, 4));
        refused(s, "levels(1, 2)", NO, q -> q.levels(1, 2));
        refused(s, "levels(far)", BAD, q -> q.levels(LOW, HIGH));
        refused(s, "curve(1)", NO, q -> q.curve(1));
        refused(s, "drop(2)", BAD, q -> q.drop(2));
        refused(s, "lift(3)", BAD, q -> q.lift(3));
        refused(s, "lift(far)", BAD, q -> q.lift(HIGH));
        refused(s, "tile(4, 0, 0)", BAD, q -> q.tile(4, 0, 0));
        refused(s, "write(far)", BAD, q -> q.write(LOW));
        refused(s, "fault()", NONE, QuadKeys::fault);
    }

    /** fault() and lay() of a text with a fault tell causes, and change nothing else. */
    private static void ofFaultyText() {
        State s = new State("w3,0;+b0,0,6,6;p1,1;", q -> q.levels(0, 2), "w2,1;+b0,0,3,3;p3,3;p3,4;");
        changesNothing(s, "fault()", 20, QuadKeys::fault, true);
        changesNothing(s, "lay()", NO, QuadKeys::lay, true);
        State empty = new State("w3,0;+b0,0,6,6;p1,1;", q -> q.levels(0, 2), "");
        changesNothing(empty, "lay() of none", NO, QuadKeys::lay, true);
        State blamed = new State("w3,0;p1,1;", QuadKeys::lay, "");
        changesNothing(blamed, "fault() of none", NONE, QuadKeys::fault, true);
        refused(blamed, "write(0)", BAD, q -> q.write(0));
        refused(blamed, "curve(0)", NO, q -> q.curve(0));
        refused(blamed, "drop(0)", BAD, q -> q.drop(0));
    }

    /** FULL, and BAD ahead of it. */
    private static void ofFullOnes() {
        State s = new State("w3,1;", RefusalsTest::fill, "9".repeat(200));
        refused(s, "write('w') of a full text", FULL, q -> q.write('w'));
        refused(s, "write(127) of a full text", BAD, q -> q.write(127));
        refused(s, "box of eight parts", FULL, q -> q.box(0, 0, 0, 7, 7));
        refused(s, "a wrong box of eight parts", BAD, q -> q.box(0, 0, 0, 8, 7));
        refused(s, "disc of eight parts", FULL, q -> q.disc(0, 0, 0, 63));
        refused(s, "a wrong disc of eight parts", BAD, q -> q.disc(0, 0, 0, 64));
        refused(s, "drop(8) of eight", BAD, q -> q.drop(8));
        refused(s, "point of forty", FULL, q -> q.point(7, 7));
        refused(s, "a wrong point of forty", BAD, q -> q.point(7, 8));
        refused(s, "lift(40) of forty", BAD, q -> q.lift(40));
        refused(s, "at(40, 2) of forty", BAD, q -> q.at(40, 2));
        refused(s, "ordered(40) of forty", NONE, q -> q.ordered(40));
        changesNothing(s, "fault() of a full text", 0, QuadKeys::fault, true);
        changesNothing(s, "lay() of a full text", NO, QuadKeys::lay, true);
    }

    private static int fill(QuadKeys q) {
        for (int i = 0; i < 8; i++) {
            q.disc((i + 1) % 2, i, i, 2);
        }
        for (int i = 0; i < 40; i++) {
            q.point(i % 8, i * 3 / 8 % 8);
        }
        return 0;
    }

    /** NONE where there is nothing, and BAD ahead of it. */
    private static void ofBareWorld() {
        State s = new State("w1,0;", q -> 0, "");
        refused(s, "drop(0)", BAD, q -> q.drop(0));
        refused(s, "lift(0)", BAD, q -> q.lift(0));
        refused(s, "at(0, 0)", BAD, q -> q.at(0, 0));
        refused(s, "ordered(0)", NONE, q -> q.ordered(0));
        refused(s, "ordered(-1)", BAD, q -> q.ordered(-1));
        refused(s, "found(0)", NONE, q -> q.found(0));
        refused(s, "found(-1)", BAD, q -> q.found(-1));
        refused(s, "nearest(0, 0)", NONE, q -> q.nearest(0, 0));
        refused(s, "nearest(2, 0)", BAD, q -> q.nearest(2, 0));
        refused(s, "cover(0, 0, 0)", NONE, q -> q.cover(0, 0, 0));
        refused(s, "cover(0, 0, 2)", BAD, q -> q.cover(0, 0, 2));
        refused(s, "cover(2, 0, 0)", BAD, q -> q.cover(2, 0, 0));
        refused(s, "span(1, 0, 1)", NONE, q -> q.span(1, 0, 1));
        refused(s, "span(1, 0, 2)", BAD, q -> q.span(1, 0, 2));
        refused(s, "span(2, 0, 1)", BAD, q -> q.span(2, 0, 1));
        refused(s, "beside(1, 0, -1, 2)", BAD, q -> q.beside(1, 0, -1, 2));
        refused(s, "beside(1, 0, -1, 0)", NONE, q -> q.beside(1, 0, -1, 0));
    }

    /** best: NONE, and BAD ahead of it. */
    private static void ofNoSet() {
        State s = new State("w3,0;+b0,0,7,7;p1,1;", q -> q.levels(3, 3), "w");
        refused(s, "best(1)", NONE, q -> q.best(1));
        refused(s, "best(12)", NONE, q -> q.best(12));
        refused(s, "best(13)", BAD, q -> q.best(13));
    }

    /** Questions that are answered change nothing either. */
    private static void answersChangeNothing(State s) {
        List<Call> calls = List.of(q -> q.cell(63, 1), q -> q.key(7, 7), q -> q.tile(0, 0, 5), q -> q.tile(1, 1, 6),
                q -> q.beside(1, 0, 1, 1), q -> q.common(0, 0, 7, 7), QuadKeys::leaps, q -> q.in(6, 6),
                q -> q.cover(0, -1, 0), q -> q.cover(1, 2, 1), q -> q.rest(1), q -> q.best(12), q -> q.span(0, 0, 1),
                q -> q.joined(1, 1), q -> q.at(2, 2), q -> q.ordered(2), q -> q.search(0), q -> q.search(1),
                q -> q.found(1), q -> q.nearest(7, 0), q -> q.count(6), QuadKeys::fault);
        for (int i = 0; i < calls.size(); i++) {
            refused(s, "answer " + i, calls.get(i).on(s.ready()), calls.get(i));
        }
    }
}
