import java.util.Random;

/** Runs of calls by a fixed seed, each answer compared with the Oracle's. */
public final class OracleTest {
    private static final int RUNS = 1500;
    private static final int CALLS = 200;

    private static final int[] WILD = {-2, -1, 0, 1, 2, 3, 5, 6, 9, 10, 11, 12, 39, 40, 41, 46, 60, 61, 99, 160, 248,
        1000, 7300, Integer.MAX_VALUE, Integer.MIN_VALUE, Integer.MIN_VALUE + 5};

    private final Random random;
    private final FrostReplies x = new FrostReplies();
    private final Oracle o = new Oracle();
    private final StringBuilder calls = new StringBuilder();
    private String alphabet = "ab";
    private boolean wrong;

    private OracleTest(long seed) {
        random = new Random(seed);
    }

    public static void main(String[] args) {
        int failures = 0;
        for (int run = 0; run < RUNS && failures < 5; run++) {
            OracleTest test = new OracleTest(run);
            test.alphabet = "abcdef".substring(0, 1 + test.random.nextInt(6));
            test.run();
            // an object is good for 512 calls, so these have one of their own
            OracleTest more = new OracleTest(RUNS + run);
            more.runOfTwice();
            more.runOfRules();
            if (test.wrong || more.wrong) {
                failures++;
                System.out.println("OracleTest run " + run + ":\n" + (test.wrong ? test : more).calls);
            }
        }
        if (failures > 0) {
            System.exit(1);
        }
        System.out.println("OracleTest: " + RUNS + " runs agree");
    }

    /** Sparse FOLLOWS and few LETTERS, so that rows that can be read twice get long. */
    private void runOfTwice() {
        alphabet = coin() ? "a" : "ab";
        for (int i = 0; i < 8 && !wrong; i++) {
            tell(0, i == 0 ? -1 : 0, hillText());
            due("twice", x.twice(0), o.twice(0));
        }
    }

    /** All that is asked of one LOG more. */
    private void runOfRules() {
        tell(3, -1, logText());
        for (int what = 0; what < 3; what++) {
            due("forged " + what, x.forged(0, what), o.forged(0, what));
        }
        int k = 10 + below(Math.max(1, o.forged(0, 1)));
        due("forged " + k, x.forged(0, k), o.forged(0, k));
        due("age least", x.age(0, false), o.age(0, false));
        due("age most", x.age(0, true), o.age(0, true));
    }

    private void run() {
        for (int i = 0; i < 2; i++) {
            tell(0, -1, hillText());
            tell(1, -1, centuryText());
            tell(2, -1, linesText());
            tell(3, -1, logText());
        }
        for (int i = 0; i < CALLS && !wrong; i++) {
            call();
        }
    }

    private int below(int n) {
        return random.nextInt(n);
    }

    private boolean coin() {
        return random.nextBoolean();
    }

    /** Mostly below n, now and then something wild. */
    private int some(int n) {
        return below(40) == 0 ? WILD[below(WILD.length)] : below(n);
    }

    /** One of a sort that is there, now and then another. */
    private int oneOf(int sort) {
        int many = o.count(sort);
        return many == 0 || below(40) == 0 ? WILD[below(WILD.length)] : below(many);
    }

    private void due(String call, long got, long want) {
        calls.append(call).append(" -> ").append(got).append('\n');
        if (got != want && want != Oracle.UNKNOWN) {
            calls.append("  but due is ").append(want).append('\n');
            wrong = true;
        }
    }

    // ---- texts

    private String row(int most) {
        StringBuilder s = new StringBuilder();
        int n = 1 + below(most);
        for (int i = 0; i < n; i++) {
            s.append(alphabet.charAt(below(alphabet.length())));
        }
        return s.toString();
    }

    private String hillText() {
        StringBuilder s = new StringBuilder();
        int words = below(10) == 0 ? below(11) : 2 + below(9);
        int most = 1 + below(6);
        for (int w = 0; w < words; w++) {
            String word = row(most);
            if (!s.toString().contains(" " + word + " ")) {
                s.append("word ").append(word).append(' ').append(below(4) == 0 ? 0 : below(100)).append(";");
            }
        }
        words = s.toString().split("word", -1).length - 1;
        if (words > 0) {
            int follows = coin() ? 0 : below(2 * words + 2);
            for (int i = 0; i < follows; i++) {
                s.append("follows ").append(below(words)).append(' ').append(below(words)).append(";");
            }
            int asks = below(10);
            for (int i = 0; i < asks; i++) {
                s.append("asks ").append(below(6)).append(' ').append(below(words)).append(";");
            }
        }
        if (coin()) {
            s.append("stones ").append(1 + below(4)).append(';');
        }
        return s.length() > 600 ? "" : s.toString();
    }

    private String wordOf(int hill, int w) {
        StringBuilder s = new StringBuilder();
        for (int k = 0; k < o.hill(hill, 10 + w); k++) {
            s.append((char) ('a' + o.hill(hill, 100 + 6 * w + k)));
        }
        return s.toString();
    }

    /** A WORD of the HILL told first, of those that may come behind another one if it can be. */
    private int wordBehind(int before) {
        int words = Math.max(0, o.hill(0, 1));
        int w = words == 0 ? -1 : below(words);
        for (int i = 0; i < 20 && w >= 0 && before >= 0 && (o.hill(0, 30 + before) >> w & 1) == 0; i++) {
            w = below(words);
        }
        return w;
    }

    /** Mostly LETTERS of WORDS that may come there, so that the CENTURY goes far. */
    private String centuryText() {
        StringBuilder s = new StringBuilder();
        int stones = coin() ? 1 : Math.max(1, o.hill(0, 0));
        int slack = 3 + below(40);
        int[] last = {-1, -1, -1, -1};
        for (int i = below(12); i >= 0; i--) {
            int stone = below(slack) == 0 ? below(4) : below(stones);
            int w = wordBehind(last[stone]);
            for (char c : (w < 0 ? row(2) : wordOf(0, w)).toCharArray()) {
                s.append(below(8) == 0 ? "forge " : "frost ").append(stone).append(' ').append(c).append(';');
                if (below(8) == 0) {
                    s.append("chip ").append(stone).append(";frost ").append(stone).append(' ').append(c).append(';');
                }
            }
            if (below(6) > 0) {
                s.append("moss ").append(stone).append(';');
            }
            last[stone] = w;
            if (below(slack) == 0) {
                s.append(coin() ? "split " : "chip ").append(stone).append(';');
            }
        }
        return upTo(s.toString(), 40);
    }

    private static String upTo(String text, int most) {
        String[] parts = text.split(";");
        StringBuilder s = new StringBuilder();
        for (int i = 0; i < parts.length && i < most; i++) {
            s.append(parts[i]).append(';');
        }
        return s.length() > 600 ? "" : s.toString();
    }

    private String linesText() {
        StringBuilder s = new StringBuilder();
        int lines = below(10) == 0 ? 0 : 2 + below(5);
        for (int i = 0; i < lines; i++) {
            StringBuilder line = new StringBuilder();
            int last = -1;
            for (int k = below(5); k > 0; k--) {
                last = wordBehind(last);
                line.append(last < 0 ? row(4) : wordOf(0, last));
            }
            if (line.length() == 0 || below(6) == 0) {
                line.append(row(1 + below(3)));
            }
            if (below(3) == 0) {
                line.setCharAt(below(line.length()), row(1).charAt(0));
            }
            line.setLength(Math.min(coin() ? 12 : 1 + below(12), line.length()));
            s.append("line ").append(line).append(";");
        }
        return s.toString();
    }

    private String logText() {
        StringBuilder s = new StringBuilder();
        int facts = below(9);
        int start = 1 + below(9);
        int fall = below(3);
        int places = coin() ? 12 : 1 + below(4);
        for (int i = 0; i < facts; i++) {
            int place = below(places);
            int depth = below(4) == 0 ? below(10) : Math.min(9, Math.max(0, start - fall * (11 - place) / 4));
            s.append("depth ").append(place).append(' ').append(depth).append(";");
        }
        return s.toString();
    }

    /** Spoilt by a few bytes, with other blanks, or cut. */
    private String spoilt(String text) {
        StringBuilder s = new StringBuilder(text);
        String signs = "abgz019; \n\t;wordline_A3";
        for (int i = 1 + below(2); i > 0; i--) {
            int at = below(s.length() + 1);
            switch (below(5)) {
                case 0: s.insert(at, signs.charAt(below(signs.length()))); break;
                case 1: s.setLength(at); break;
                case 2: s.insert(at, ' '); break;
                case 3: s.insert(at, text); break;
                default:
                    if (at < s.length()) {
                        s.setCharAt(at, signs.charAt(below(signs.length())));
                    }
                    break;
            }
        }
        return s.length() > 600 ? s.substring(0, 600) : s.toString();
    }

    private void tellSpoilt(int sort, String text) {
        int at = coin() ? -1 : below(8) == 0 ? some(4) : below(2);
        tell(sort, at, below(4) == 0 ? spoilt(text) : text);
    }

    private void tell(int sort, int at, String said) {
        Say.tape(x, said);
        o.end(0);
        for (int i = 0; i < said.length(); i += 20) {
            o.feed(Say.four(said, i), Say.four(said, i + 4), Say.four(said, i + 8), Say.four(said, i + 12), Say.four(said, i + 16));
        }
        o.end(said.length());
        calls.append("tape: ").append(said).append('\n');
        due("text(" + sort + ", " + at + ")", x.text(sort, at), o.text(sort, at));
        due("fault(0)", x.fault(0), o.fault(0));
        due("fault(1)", x.fault(1), o.fault(1));
    }

    private void tellSome() {
        switch (below(4)) {
            case 0: tellSpoilt(0, hillText()); break;
            case 1: tellSpoilt(1, centuryText()); break;
            case 2: tellSpoilt(2, linesText()); break;
            default: tellSpoilt(3, logText()); break;
        }
    }

    private void tapeCalls() {
        int a = random.nextInt();
        int n = some(601);
        int sort = some(4);
        switch (below(4)) {
            case 0:
                due("feed " + a, x.feed(a, 1, -1, a >>> 3, 7), o.feed(a, 1, -1, a >>> 3, 7));
                break;
            case 1: due("end " + n, x.end(n), o.end(n)); break;
            case 2: due("text " + sort + " " + n, x.text(sort, n), o.text(sort, n)); break;
            default: due("fault " + n, x.fault(n), o.fault(n)); break;
        }
    }

    // ---- calls

    private int stateWhat() {
        switch (below(4)) {
            case 0: return some(70);
            case 1: return 100 + below(50);
            case 2: return 200 + below(50);
            default: return 10 * (1 + below(6)) + below(4);
        }
    }

    private void call() {
        switch (below(8)) {
            case 0: tellOrKeep(); break;
            case 1: case 2: lineCall(); break;
            case 3: case 4: hillCall(); break;
            case 5: case 6: centuryCall(); break;
            default: logCall(); break;
        }
    }

    private void tellOrKeep() {
        int k = some(3);
        switch (below(6)) {
            case 0: tellSome(); break;
            case 1: due("image " + k, x.image(k) ? 1 : 0, o.image(k) ? 1 : 0); break;
            case 2: due("again " + k, x.again(k) ? 1 : 0, o.again(k) ? 1 : 0); break;
            case 3: due("count " + k, x.count(k), o.count(k)); break;
            case 4: due("fault " + k, x.fault(k), o.fault(k)); break;
            default: tapeCalls(); break;
        }
    }

    private void lineCall() {
        int h = oneOf(0);
        int l = oneOf(2);
        int k = some(Math.max(1, o.line(l, -1, 0)));
        int i = some(14) - 1;
        boolean b = coin();
        String at = " of " + h + ", " + l + ", " + k + ", " + i + ", " + b;
        switch (below(8)) {
            case 0: due("line" + at, x.line(l, k - 1, i), o.line(l, k - 1, i)); break;
            case 1: due("said" + at, x.said(h, l, k, i & 1), o.said(h, l, k, i & 1)); break;
            case 2: due("odds" + at, x.odds(h, l, k, i, b), o.odds(h, l, k, i, b)); break;
            case 3: due("sure" + at, x.sure(h, l, k, b), o.sure(h, l, k, b)); break;
            case 4: due("reading" + at, x.reading(h, l, k, i / 2), o.reading(h, l, k, i / 2)); break;
            case 5: due("slips" + at, x.slips(h, l, k, i / 3), o.slips(h, l, k, i / 3)); break;
            case 6: due("next" + at, x.next(h, l, k, i / 4), o.next(h, l, k, i / 4)); break;
            default: due("echo" + at, x.echo(l, k, i, b), o.echo(l, k, i, b)); break;
        }
    }

    private void hillCall() {
        int h = oneOf(0);
        int n = some(1 + Math.max(6, o.hill(h, 1))) - 1;
        int what = coin() ? some(170) : coin() ? 40 + below(7) : 10 * (1 + below(3)) + below(8);
        boolean b = coin();
        String at = " of " + h + ", " + n + ", " + what + ", " + b;
        switch (below(10)) {
            case 0: due("hill" + at, x.hill(h, what), o.hill(h, what)); break;
            case 1: due("asked" + at, x.asked(h, n, b), o.asked(h, n, b)); break;
            case 2: due("soonest" + at, x.soonest(h), o.soonest(h)); break;
            case 3: due("sentences" + at, x.sentences(h, n), o.sentences(h, n)); break;
            case 4: due("twice" + at, x.twice(h), o.twice(h)); break;
            case 5: due("ghost" + at, x.ghost(h, b), o.ghost(h, b)); break;
            case 6: due("alike" + at, x.alike(h, n, what % 8, b), o.alike(h, n, what % 8, b)); break;
            case 7: due("tree" + at, x.tree(h, n), o.tree(h, n)); break;
            case 8: due("tree" + at, x.tree(h, n + 10), o.tree(h, n + 10)); break;
            default: due("chain" + at, x.chain(h, n), o.chain(h, n)); break;
        }
    }

    private void centuryCall() {
        int h = oneOf(0);
        int c = oneOf(1);
        int n = some(2 + Math.max(0, o.stop(h, c)));
        int seed = coin() ? random.nextInt() : below(100);
        int what = stateWhat();
        String at = " of " + h + ", " + c + ", " + n + ", " + what + ", " + seed;
        switch (below(6)) {
            case 0: due("deed" + at, x.deed(c, n - 1, what % 4), o.deed(c, n - 1, what % 4)); break;
            case 1: due("stop" + at, x.stop(h, c), o.stop(h, c)); break;
            case 2: case 3: due("state" + at, x.state(h, c, n, what), o.state(h, c, n, what)); break;
            case 4: due("drawn" + at, x.drawn(h, seed, 2 * n, what), o.drawn(h, seed, 2 * n, what)); break;
            default: due("after" + at, x.after(h, c, what % 5), o.after(h, c, what % 5)); break;
        }
    }

    private void logCall() {
        int l = oneOf(3);
        int k = some(10) - 1;
        int p = some(13) - 1;
        int y = some(11);
        int what = coin() ? k : 10 + below(coin() ? 20 : 7500);
        boolean b = coin();
        String at = " of " + l + ", " + k + ", " + p + ", " + y + ", " + b;
        switch (below(below(5) == 0 ? 5 : 3)) {
            case 0: due("fact" + at, x.fact(l, k, p & 1), o.fact(l, k, p & 1)); break;
            case 1: due("chance" + at, x.chance(k + 1, y, p, b), o.chance(k + 1, y, p, b)); break;
            case 2: due("waits" + at, x.waits(p, k, b), o.waits(p, k, b)); break;
            case 3: due("forged" + at + ", " + what, x.forged(l, what), o.forged(l, what)); break;
            default: due("age" + at, x.age(l, b), o.age(l, b)); break;
        }
    }
}
