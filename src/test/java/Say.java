/** What several tests need: texts brought to the tape as a user brings them. */
final class Say {
    static final int HILL = 0;
    static final int CENTURY = 1;
    static final int LINES = 2;
    static final int LOG = 3;

    /** What is behind a text and cut off by end(): signs with which its last token would go on. */
    private static final String LEFT_OVER = "a7b;";

    private Say() {
    }

    /** The tape becomes just this text. */
    static void tape(FrostReplies x, String text) {
        x.end(0);
        for (int at = 0; at < text.length(); at += 20) {
            x.feed(four(text, at), four(text, at + 4), four(text, at + 8), four(text, at + 12), four(text, at + 16));
        }
        x.end(text.length());
    }

    static int tell(FrostReplies x, int sort, int at, String text) {
        tape(x, text);
        return x.text(sort, at);
    }

    static int four(String text, int at) {
        int number = 0;
        for (int i = at; i < at + 4; i++) {
            number = number << 8 | (i < text.length() ? text.charAt(i) & 255 : LEFT_OVER.charAt(i % 4));
        }
        return number;
    }

    static String repeat(String part, int times) {
        return part.repeat(times);
    }
}
