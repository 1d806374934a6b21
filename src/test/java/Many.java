/** Objects with one and the same text laid, each used for fewer calls than the 512 that are promised. */
final class Many {
    private final String text;
    private QuadKeys held;
    private int calls;

    Many(String text) {
        this.text = text;
    }

    QuadKeys next() {
        if (held == null || calls == 300) {
            held = Check.laid(text);
            calls = 0;
        }
        calls++;
        return held;
    }
}
