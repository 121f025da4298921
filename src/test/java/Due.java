import java.io.IOException;
import java.nio.file.Files;
import java.nio.file.Path;
import java.util.ArrayList;
import java.util.Arrays;
import java.util.List;

/** Counts answers that are not as due, each under the words of the document that ask for it. */
final class Due {
    static final int NONE = FrostReplies.NONE;
    static final int MIN = Integer.MIN_VALUE;
    static final int MAX = Integer.MAX_VALUE;

    /** So many wrong answers are enough to see. */
    private static final int ENOUGH = 200;
    private static final Path DOCUMENT = Path.of("../shared/DOC.md");

    private final List<String[]> quotes = new ArrayList<>();
    private String section = "";
    private String words = "";
    private int wrong;

    /** What is quoted from here on stands under this headline of the document. */
    void of(String headline) {
        section = headline;
    }

    /** What is looked at from here on is due by these words. */
    void by(String quoted) {
        words = quoted;
        quotes.add(new String[] {section, quoted});
    }

    void is(String call, long got, long want) {
        if (got != want) {
            complain("by '" + words + "': ", call + " answered " + got + ", due is " + want);
        }
    }

    void is(String call, boolean got, boolean want) {
        is(call, got ? 1 : 0, want ? 1 : 0);
    }

    void is(String call, List<Long> got, List<Long> want) {
        if (!got.equals(want)) {
            complain("by '" + words + "': ", "behind " + call + " there is " + got + ", due is " + want);
        }
    }

    /** A new object to which one text is told. */
    FrostReplies told(int sort, String text) {
        FrostReplies x = new FrostReplies();
        further(x, sort, text);
        return x;
    }

    FrostReplies hill(String text) {
        return told(Say.HILL, text);
    }

    FrostReplies hillAnd(String hill, int sort, String text) {
        FrostReplies x = hill(hill);
        further(x, sort, text);
        return x;
    }

    void further(FrostReplies x, int sort, String text) {
        int number = x.count(sort);
        is("text " + text, Say.tell(x, sort, NONE, text), number);
    }

    /** In the place of the one of number 0. */
    void instead(FrostReplies x, int sort, String text) {
        is("text " + text, Say.tell(x, sort, 0, text), 0);
    }

    void fine(int sort, String text) {
        fault(sort, text, 0, NONE);
    }

    void fault(int sort, String text, int fault, int place) {
        FrostReplies x = new FrostReplies();
        is("text " + text, Say.tell(x, sort, NONE, text), fault == 0 ? 0 : NONE);
        is("fault of " + text, x.fault(0), fault);
        is("place of " + text, x.fault(1), place);
        is("count behind " + text, x.count(sort), fault == 0 ? 1 : 0);
        is("tape behind " + text, x.end(1), NONE);
    }

    /** How many answers are not as due; also if words are not the document's, or a sentence has no test. */
    int wrongs() throws IOException {
        if (Files.exists(DOCUMENT)) {
            compareWith(Files.readString(DOCUMENT));
        }
        return wrong;
    }

    private void compareWith(String document) {
        for (String part : document.split("\n## ")) {
            compareWith(part.substring(0, part.indexOf('\n')), oneLine(part.substring(part.indexOf('\n'))));
        }
        for (String[] quote : quotes) {
            complain("not in the document: ", String.join(": ", quote));
        }
    }

    /** Takes the quotes of one part of the document away, and complains of what no quote is of. */
    private void compareWith(String headline, String text) {
        boolean[] quoted = new boolean[text.length()];
        for (int q = quotes.size() - 1; q >= 0; q--) {
            String words = oneLine(quotes.get(q)[1]);
            int at = text.indexOf(words);
            if (quotes.get(q)[0].equals(headline) && at >= 0) {
                Arrays.fill(quoted, at, at + words.length(), true);
                quotes.remove(q);
            }
        }
        int from = headline.startsWith("Terms") || headline.startsWith("Promise") ? 0 : text.length();
        for (String sentence : text.split("(?<=[A-Za-z)'0-9][.;:]) ")) {
            int at = text.indexOf(sentence, from);
            if (at < 0) {
                return;
            }
            from = at + sentence.length();
            if (!anyOf(quoted, at, from) && sentence.matches(".*[A-Za-z].*")) {
                complain("no test of " + headline + ": ", sentence);
            }
        }
    }

    private void complain(String of, String what) {
        wrong++;
        System.out.println(of + what);
        if (wrong == ENOUGH) {
            System.out.println("and so on");
            System.exit(1);
        }
    }

    private static boolean anyOf(boolean[] marks, int from, int to) {
        for (int i = from; i < to; i++) {
            if (marks[i]) {
                return true;
            }
        }
        return false;
    }

    private static String oneLine(String text) {
        return text.replaceAll("```(text|java)?", " ").replaceAll("\\s+", " ").trim();
    }
}
