/** Counts answers that are not as due, prints each, and ends the test with exit code 1 if any. */
final class Check {
    private static int looked;
    private static int wrong;

    private Check() {
    }

    static void due(String call, long got, long want) {
        looked++;
        if (got != want) {
            wrong++;
            if (wrong <= 50) {
                System.out.println(call + " answered " + got + ", due is " + want);
            }
        }
    }

    static boolean allRight() {
        return wrong == 0;
    }

    static void end() {
        System.out.println(looked + " answers looked at, " + wrong + " not as due");
        if (wrong != 0 || looked == 0) {
            System.exit(1);
        }
    }

    /** The text is these letters, none else. */
    static QuadKeys tell(QuadKeys q, String text) {
        q.wipe();
        for (int i = 0; i < text.length(); i++) {
            due("write " + text.charAt(i), q.write(text.charAt(i)), i + 1);
        }
        return q;
    }

    static QuadKeys laid(String text) {
        QuadKeys q = tell(new QuadKeys(), text);
        due("lay " + text, q.lay(), 1L << (text.charAt(1) - '0'));
        return q;
    }
}
