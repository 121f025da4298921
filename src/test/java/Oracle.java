import java.math.BigInteger;
import java.util.ArrayList;
import java.util.Arrays;
import java.util.Comparator;
import java.util.HashMap;
import java.util.HashSet;
import java.util.List;
import java.util.Map;
import java.util.Set;

/** The document once more, by other ways (enumerations, texts, sets): slow, and only to compare with. */
final class Oracle {
    /** Answered where the plain way would take too long: nothing to compare then. */
    static final int UNKNOWN = -77;

    static final class OHill {
        int stones = 2;
        List<String> words = new ArrayList<>();
        List<Integer> often = new ArrayList<>();
        Set<Integer> couples = new HashSet<>();
        Set<Integer> asks = new HashSet<>();

        boolean may(int a, int b) {
            return couples.isEmpty() || couples.contains(10 * a + b);
        }
    }

    static final class Stone {
        String letters = "";
        List<Integer> depths = new ArrayList<>();
        List<Boolean> forged = new ArrayList<>();
        int pause;
        List<Integer> told = new ArrayList<>();
        boolean split;

        String open() {
            return letters.substring(pause);
        }

        void add(char c, int depth, boolean forgery) {
            letters += c;
            depths.add(depth);
            forged.add(forgery);
        }
    }

    private String tape = "";
    private int fault;
    private int place = -1;
    private List<List<Object>> sorts = new ArrayList<>();
    private final Object[][] images = new Object[3][];

    Oracle() {
        for (int i = 0; i < 4; i++) {
            sorts.add(new ArrayList<>());
        }
    }

    // ---- texts

    int feed(int a, int b, int c, int d, int e) {
        if (tape.length() > 580) {
            return -1;
        }
        for (int n : new int[] {a, b, c, d, e}) {
            for (int i = 3; i >= 0; i--) {
                tape += (char) (n >> 8 * i & 0xff);
            }
        }
        return tape.length();
    }

    int end(int n) {
        if (n < 0 || n > tape.length()) {
            return -1;
        }
        tape = tape.substring(0, n);
        return n;
    }

    int text(int sort, int at) {
        fault = 0;
        place = -1;
        List<Object> all = sort < 0 || sort > 3 ? null : sorts.get(sort);
        if (all == null || (at == -1 ? all.size() == 2 : at < 0 || at >= all.size())) {
            tape = "";
            return -2;
        }
        Object read = read(sort);
        tape = "";
        if (fault != 0) {
            return -1;
        }
        if (at == -1) {
            all.add(read);
            return all.size() - 1;
        }
        all.set(at, read);
        return at;
    }

    private static String argumentsOf(int sort, String key) {
        switch (sort + key) {
            case "0word": return "rn";
            case "0follows": case "0asks": case "3depth": return "nn";
            case "0stones": case "1moss": case "1chip": case "1split": return "n";
            case "1frost": case "1forge": return "nr";
            case "2line": return "r";
            default: return null;
        }
    }

    private Object read(int sort) {
        List<String> tokens = new ArrayList<>();
        List<Integer> starts = new ArrayList<>();
        java.util.regex.Matcher m = java.util.regex.Pattern.compile("[a-z]+|[0-9]+|;|[^ \n]", java.util.regex.Pattern.DOTALL).matcher(tape);
        while (m.find()) {
            tokens.add(m.group());
            starts.add(m.start());
        }
        tokens.add("");
        starts.add(tape.length());
        List<int[]> faults = new ArrayList<>();
        List<List<String>> told = new ArrayList<>();
        int t = 0;
        while (!tokens.get(t).isEmpty()) {
            String key = tokens.get(t);
            String pattern = argumentsOf(sort, key);
            if (pattern == null) {
                return faultAt(1, starts.get(t));
            }
            List<String> row = new ArrayList<>(List.of(key));
            List<Integer> places = new ArrayList<>(List.of(starts.get(t)));
            t++;
            for (char kind : (pattern + ";").toCharArray()) {
                String token = tokens.get(t);
                boolean fits = kind == ';' ? token.equals(";") : token.matches(kind == 'r' ? "[a-z]+" : "[0-9]{1,2}");
                if (!fits) {
                    return faultAt(1, starts.get(t));
                }
                row.add(token);
                places.add(starts.get(t));
                t++;
            }
            told.add(row);
            inspect(row, places, told, faults);
        }
        if (!faults.isEmpty()) {
            faults.sort(Comparator.<int[]>comparingInt(f -> f[1]).thenComparingInt(f -> f[0]));
            return faultAt(faults.get(0)[0], faults.get(0)[1]);
        }
        return sort == 0 ? makeHill(told) : told;
    }

    private Object faultAt(int which, int where) {
        fault = which;
        place = where;
        return null;
    }

    private void inspect(List<String> row, List<Integer> places, List<List<String>> told, List<int[]> faults) {
        String key = row.get(0);
        boolean[] bad = new boolean[4];
        switch (key) {
            case "word": bad[1] = !row.get(1).matches("[a-f]{1,6}"); break;
            case "follows": bad[1] = over(row, 1, 9); bad[2] = over(row, 2, 9); break;
            case "asks": bad[1] = over(row, 1, 5); bad[2] = over(row, 2, 9); break;
            case "stones": bad[1] = over(row, 1, 4) || Integer.parseInt(row.get(1)) == 0; break;
            case "line": bad[1] = !row.get(1).matches("[a-f]{1,12}"); break;
            case "depth": bad[1] = over(row, 1, 11); bad[2] = over(row, 2, 9); break;
            case "frost": case "forge": bad[1] = over(row, 1, 3); bad[2] = !row.get(2).matches("[a-f]"); break;
            default: bad[1] = over(row, 1, 3); break;
        }
        for (int i = 1; i < 4; i++) {
            if (bad[i]) {
                faults.add(new int[] {2, places.get(i)});
            }
        }
        long many = told.stream().filter(r -> key.equals("word") ? r.get(0).equals("word") : true).count();
        int most = Map.of("word", 10, "line", 6, "depth", 8, "follows", 999, "asks", 999, "stones", 999).getOrDefault(key, 40);
        if (many > most) {
            faults.add(new int[] {3, places.get(0)});
        }
    }

    private static boolean over(List<String> row, int i, int most) {
        return Integer.parseInt(row.get(i)) > most;
    }

    private Object makeHill(List<List<String>> told) {
        OHill hill = new OHill();
        int highest = -1;
        for (List<String> row : told) {
            switch (row.get(0)) {
                case "word": hill.words.add(row.get(1)); hill.often.add(Integer.parseInt(row.get(2))); break;
                case "stones": hill.stones = Integer.parseInt(row.get(1)); break;
                case "follows":
                    hill.couples.add(10 * Integer.parseInt(row.get(1)) + Integer.parseInt(row.get(2)));
                    highest = Math.max(highest, Integer.parseInt(row.get(1)));
                    highest = Math.max(highest, Integer.parseInt(row.get(2)));
                    break;
                default:
                    hill.asks.add(10 * Integer.parseInt(row.get(1)) + Integer.parseInt(row.get(2)));
                    highest = Math.max(highest, Integer.parseInt(row.get(2)));
                    break;
            }
        }
        if (highest >= hill.words.size()) {
            return faultAt(4, tape.length());
        }
        if (new HashSet<>(hill.words).size() < hill.words.size()) {
            return faultAt(5, tape.length());
        }
        return hill;
    }

    int fault(int what) {
        return what == 0 ? fault : what == 1 ? place : -1;
    }

    int count(int sort) {
        return sort < 0 || sort > 3 ? -2 : sorts.get(sort).size();
    }

    boolean image(int k) {
        if (k < 0 || k > 2) {
            return false;
        }
        images[k] = new Object[] {tape, fault, place, copyOf(sorts)};
        return true;
    }

    @SuppressWarnings("unchecked")
    boolean again(int k) {
        if (k < 0 || k > 2 || images[k] == null) {
            return false;
        }
        tape = (String) images[k][0];
        fault = (Integer) images[k][1];
        place = (Integer) images[k][2];
        sorts = copyOf((List<List<Object>>) images[k][3]);
        return true;
    }

    private static List<List<Object>> copyOf(List<List<Object>> all) {
        List<List<Object>> copy = new ArrayList<>();
        for (List<Object> one : all) {
            copy.add(new ArrayList<>(one));
        }
        return copy;
    }

    // ---- what is told

    private Object one(int sort, int i) {
        return i < 0 || i >= sorts.get(sort).size() ? null : sorts.get(sort).get(i);
    }

    private OHill hillAt(int i) {
        return (OHill) one(0, i);
    }

    @SuppressWarnings("unchecked")
    private List<List<String>> rowsAt(int sort, int i) {
        return (List<List<String>>) one(sort, i);
    }

    private String lineAt(int lines, int k) {
        List<List<String>> rows = rowsAt(2, lines);
        return rows == null || k < 0 || k >= rows.size() ? null : rows.get(k).get(1);
    }

    int hill(int hill, int what) {
        OHill h = hillAt(hill);
        if (h == null || what < 0) {
            return -1;
        }
        Map<Integer, Integer> answers = new HashMap<>();
        answers.put(0, h.stones);
        answers.put(1, h.words.size());
        for (int q = 0; q < 6; q++) {
            answers.put(40 + q, bitsOf(answersOf(h, q)));
        }
        for (int w = 0; w < h.words.size(); w++) {
            answers.put(10 + w, h.words.get(w).length());
            answers.put(20 + w, h.often.get(w));
            answers.put(30 + w, bitsOf(behind(h, w)));
            for (int k = 0; k < h.words.get(w).length(); k++) {
                answers.put(100 + 6 * w + k, h.words.get(w).charAt(k) - 'a');
            }
        }
        return answers.getOrDefault(what, -1);
    }

    private static List<Integer> behind(OHill h, int w) {
        List<Integer> all = new ArrayList<>();
        for (int v = 0; v < h.words.size(); v++) {
            if (h.may(w, v)) {
                all.add(v);
            }
        }
        return all;
    }

    private static List<Integer> answersOf(OHill h, int q) {
        List<Integer> all = new ArrayList<>();
        for (int v = 0; v < h.words.size(); v++) {
            if (h.asks.contains(10 * q + v)) {
                all.add(v);
            }
        }
        return all;
    }

    private static int bitsOf(Iterable<Integer> all) {
        int bits = 0;
        for (int i : all) {
            bits |= 1 << i;
        }
        return bits;
    }

    private static final List<String> KINDS = List.of("frost", "forge", "moss", "chip", "split");

    int deed(int century, int k, int what) {
        List<List<String>> rows = rowsAt(1, century);
        if (rows == null) {
            return -2;
        }
        if (k == -1) {
            return what == 0 ? rows.size() : -2;
        }
        if (k < 0 || k >= rows.size() || what < 0 || what > 2) {
            return -2;
        }
        List<String> row = rows.get(k);
        if (what == 0) {
            return KINDS.indexOf(row.get(0));
        }
        return what == 1 ? Integer.parseInt(row.get(1)) : row.get(2).equals(";") ? -1 : row.get(2).charAt(0) - 'a';
    }

    int line(int lines, int k, int i) {
        List<List<String>> rows = rowsAt(2, lines);
        if (rows == null) {
            return -2;
        }
        if (k == -1) {
            return i == 0 ? rows.size() : -2;
        }
        String line = lineAt(lines, k);
        if (line == null || i < -1 || i >= line.length()) {
            return -2;
        }
        return i == -1 ? line.length() : line.charAt(i) - 'a';
    }

    int fact(int log, int k, int what) {
        List<List<String>> rows = rowsAt(3, log);
        if (rows == null) {
            return -2;
        }
        if (k == -1) {
            return what == 0 ? rows.size() : -2;
        }
        return k < 0 || k >= rows.size() || what < 0 || what > 1 ? -2 : Integer.parseInt(rows.get(k).get(1 + what));
    }

    // ---- centuries

    private static List<Integer> fits(OHill h, Stone s, String open) {
        List<Integer> all = new ArrayList<>();
        for (int w = 0; w < h.words.size(); w++) {
            boolean may = s.told.isEmpty() || h.may(s.told.get(s.told.size() - 1), w);
            if (may && h.words.get(w).startsWith(open)) {
                all.add(w);
            }
        }
        return all;
    }

    private static boolean does(OHill h, List<Stone> stones, String kind, int stone, char letter) {
        if (stone >= stones.size() || stones.get(stone).split) {
            return false;
        }
        Stone s = stones.get(stone);
        switch (kind) {
            case "frost":
                if (s.letters.length() == 12 || fits(h, s, s.open() + letter).isEmpty()) {
                    return false;
                }
                s.depths.replaceAll(d -> d == 0 ? 0 : d - 1);
                s.add(letter, 9, false);
                return true;
            case "forge":
                if (s.letters.length() == 12) {
                    return false;
                }
                s.add(letter, 5, true);
                return true;
            case "moss":
                for (int w : fits(h, s, s.open())) {
                    if (h.words.get(w).equals(s.open())) {
                        s.told.add(w);
                        s.pause = s.letters.length();
                        return true;
                    }
                }
                return false;
            case "chip":
                if (s.open().isEmpty()) {
                    return false;
                }
                int last = s.letters.length() - 1;
                s.letters = s.letters.substring(0, last);
                s.depths.remove(last);
                s.forged.remove(last);
                return true;
            default:
                s.split = true;
                return true;
        }
    }

    private static List<Stone> newStones(OHill h) {
        List<Stone> stones = new ArrayList<>();
        for (int i = 0; i < h.stones; i++) {
            stones.add(new Stone());
        }
        return stones;
    }

    private static boolean doesRow(OHill h, List<Stone> stones, List<String> row) {
        return does(h, stones, row.get(0), Integer.parseInt(row.get(1)), row.get(2).charAt(0));
    }

    int stop(int hill, int century) {
        OHill h = hillAt(hill);
        List<List<String>> rows = rowsAt(1, century);
        if (h == null || rows == null) {
            return -1;
        }
        List<Stone> stones = newStones(h);
        int k = 0;
        while (k < rows.size() && doesRow(h, stones, rows.get(k))) {
            k++;
        }
        return k;
    }

    private List<Stone> stateOf(int hill, int century, int n) {
        OHill h = hillAt(hill);
        List<Stone> stones = newStones(h);
        for (List<String> row : rowsAt(1, century).subList(0, n)) {
            doesRow(h, stones, row);
        }
        return stones;
    }

    int state(int hill, int century, int n, int what) {
        int stop = stop(hill, century);
        return stop == -1 || n < 0 || n > stop ? -2 : look(hillAt(hill), stateOf(hill, century, n), what);
    }

    private static int look(OHill h, List<Stone> stones, int what) {
        Map<Integer, Integer> answers = new HashMap<>();
        int split = 0;
        for (int s = 0; s < stones.size(); s++) {
            Stone stone = stones.get(s);
            split |= stone.split ? 1 << s : 0;
            answers.put(10 + s, stone.letters.length());
            answers.put(20 + s, stone.open().length());
            answers.put(30 + s, stone.told.size());
            answers.put(40 + s, stone.told.isEmpty() ? -1 : stone.told.get(stone.told.size() - 1));
            answers.put(50 + s, bitsOf(fits(h, stone, stone.open())));
            answers.put(60 + s, (int) stone.forged.stream().filter(f -> f).count());
            for (int k = 0; k < stone.letters.length(); k++) {
                answers.put(100 + 12 * s + k, stone.letters.charAt(k) - 'a');
                answers.put(200 + 12 * s + k, stone.depths.get(k));
            }
        }
        answers.put(0, split);
        return answers.getOrDefault(what, -2);
    }

    int after(int hill, int century, int what) {
        int stop = stop(hill, century);
        if (stop == -1 || what < 0 || what > 3) {
            return -2;
        }
        List<Stone> stones = stateOf(hill, century, stop);
        if (what == 0) {
            int best = -1;
            for (int s = stones.size() - 1; s >= 0; s--) {
                int told = stones.get(s).told.size();
                if (told > 0 && (best == -1 || told >= stones.get(best).told.size())) {
                    best = s;
                }
            }
            return best;
        }
        if (what == 3) {
            int bits = 0;
            for (int s = 0; s < stones.size(); s++) {
                bits |= stones.get(s).forged.contains(true) ? 1 << s : 0;
            }
            return bits;
        }
        int fullest = 0;
        for (int n = 0; n <= stop; n++) {
            int told = 0;
            for (Stone s : stateOf(hill, century, n)) {
                fullest = Math.max(fullest, s.letters.length());
                told += s.told.size();
            }
            if (what == 1 && told > 0) {
                return n - 1;
            }
        }
        return what == 1 ? -1 : fullest;
    }

    int drawn(int hill, int seed, int n, int what) {
        OHill h = hillAt(hill);
        if (h == null || n < 0 || n > 60) {
            return -2;
        }
        List<Stone> stones = newStones(h);
        long[] x = {seed & 0xffffffffL};
        for (int i = 0; i < n; i++) {
            int number = draw(x, 8);
            int stone = draw(x, h.stones);
            if (number < 5 || number == 6) {
                does(h, stones, number == 6 ? "forge" : "frost", stone, (char) ('a' + draw(x, 6)));
            } else {
                does(h, stones, number == 5 ? "moss" : "chip", stone, ';');
            }
        }
        return look(h, stones, what);
    }

    private static int draw(long[] x, int n) {
        x[0] = BigInteger.valueOf(x[0]).multiply(BigInteger.valueOf(1103515245L)).add(BigInteger.valueOf(12345))
            .mod(BigInteger.ONE.shiftLeft(32)).longValue();
        return (int) (x[0] / 65536 % n);
    }

    // ---- lines

    private static List<Integer> saidWords(OHill h, String line) {
        List<Integer> all = new ArrayList<>();
        for (int w = 0; w < h.words.size(); w++) {
            if (h.words.get(w).startsWith(line)) {
                all.add(w);
            }
        }
        return all;
    }

    int said(int hill, int lines, int k, int what) {
        OHill h = hillAt(hill);
        String line = lineAt(lines, k);
        if (h == null || line == null || what < 0 || what > 1) {
            return -2;
        }
        List<Integer> all = saidWords(h, line);
        if (what == 0) {
            return bitsOf(all);
        }
        return all.stream().max(Comparator.<Integer>comparingInt(w -> h.often.get(w)).thenComparingInt(w -> -w)).orElse(-1);
    }

    private static long part(long above, long below, boolean under) {
        if (below == 0) {
            return -1;
        }
        long d = BigInteger.valueOf(above).gcd(BigInteger.valueOf(below)).longValue();
        return under ? below / d : above / d;
    }

    long odds(int hill, int lines, int k, int word, boolean under) {
        OHill h = hillAt(hill);
        String line = lineAt(lines, k);
        if (h == null || line == null || word < 0 || word >= h.words.size()) {
            return -1;
        }
        List<Integer> all = saidWords(h, line);
        long sum = all.stream().mapToInt(w -> h.often.get(w)).sum();
        return part(all.contains(word) ? h.often.get(word) : 0, sum, under);
    }

    /** Above and below of the mean, not in least terms. */
    private static long[] mean(OHill h, List<Integer> all, int from) {
        long above = 0;
        long below = 0;
        for (int w : all) {
            String word = h.words.get(w);
            int n = from;
            while (n < word.length()) {
                String begins = word.substring(0, n);
                if (all.stream().filter(v -> h.words.get(v).startsWith(begins)).count() == 1) {
                    break;
                }
                n++;
            }
            above += (long) (n - from) * h.often.get(w);
            below += h.often.get(w);
        }
        return new long[] {above, below};
    }

    long sure(int hill, int lines, int k, boolean under) {
        OHill h = hillAt(hill);
        String line = lineAt(lines, k);
        if (h == null || line == null) {
            return -1;
        }
        long[] mean = mean(h, saidWords(h, line), line.length());
        return part(mean[0], mean[1], under);
    }

    long asked(int hill, int question, boolean under) {
        OHill h = hillAt(hill);
        if (h == null || question < 0 || question > 5) {
            return -1;
        }
        long[] mean = mean(h, answersOf(h, question), 0);
        return part(mean[0], mean[1], under);
    }

    int soonest(int hill) {
        int best = -1;
        for (int q = 0; q < 6; q++) {
            if (asked(hill, q, true) > 0) {
                double mean = (double) asked(hill, q, false) / asked(hill, q, true);
                double least = best == -1 ? 99 : (double) asked(hill, best, false) / asked(hill, best, true);
                best = mean < least - 1e-9 ? q : best;
            }
        }
        return best;
    }

    private static void readings(OHill h, String rest, List<Integer> row, List<List<Integer>> found) {
        if (rest.isEmpty()) {
            found.add(new ArrayList<>(row));
            return;
        }
        for (int w = 0; w < h.words.size(); w++) {
            boolean may = row.isEmpty() || h.may(row.get(row.size() - 1), w);
            if (may && rest.startsWith(h.words.get(w))) {
                row.add(w);
                readings(h, rest.substring(h.words.get(w).length()), row, found);
                row.remove(row.size() - 1);
            }
        }
    }

    int reading(int hill, int lines, int k, int i) {
        OHill h = hillAt(hill);
        String line = lineAt(lines, k);
        if (h == null || line == null) {
            return -1;
        }
        List<List<Integer>> found = new ArrayList<>();
        readings(h, line, new ArrayList<>(), found);
        if (i == -1) {
            return found.size();
        }
        return i < 0 || found.isEmpty() || i >= found.get(0).size() ? -1 : found.get(0).get(i);
    }

    private static int changes(String a, String b) {
        if (a.isEmpty() || b.isEmpty()) {
            return a.length() + b.length();
        }
        int[][] d = new int[a.length() + 1][b.length() + 1];
        for (int i = 0; i <= a.length(); i++) {
            for (int j = 0; j <= b.length(); j++) {
                if (i == 0 || j == 0) {
                    d[i][j] = i + j;
                } else {
                    int same = d[i - 1][j - 1] + (a.charAt(i - 1) == b.charAt(j - 1) ? 0 : 1);
                    d[i][j] = Math.min(same, Math.min(d[i - 1][j], d[i][j - 1]) + 1);
                }
            }
        }
        return d[a.length()][b.length()];
    }

    int slips(int hill, int lines, int k, int n) {
        OHill h = hillAt(hill);
        String line = lineAt(lines, k);
        if (h == null || line == null || n < 0 || n > 3) {
            return -1;
        }
        int bits = 0;
        for (int w = 0; w < h.words.size(); w++) {
            bits |= changes(line, h.words.get(w)) <= n ? 1 << w : 0;
        }
        return bits;
    }

    int next(int hill, int lines, int k, int what) {
        OHill h = hillAt(hill);
        String line = lineAt(lines, k);
        if (h == null || line == null || what < 0 || what > 2) {
            return -2;
        }
        if (what == 2) {
            int fewest = mend(h, line, -1);
            return fewest > 12 ? -1 : fewest;
        }
        int bits = 0;
        int keenest = -1;
        int most = -1;
        for (char c = 'a'; c <= 'f'; c++) {
            List<Integer> all = saidWords(h, line + c);
            bits |= all.isEmpty() ? 0 : 1 << c - 'a';
            int often = all.stream().mapToInt(w -> h.often.get(w)).sum();
            if (!all.isEmpty() && often > most) {
                keenest = c - 'a';
                most = often;
            }
        }
        return what == 0 ? bits : keenest;
    }

    private static int mend(OHill h, String rest, int before) {
        if (rest.isEmpty()) {
            return 0;
        }
        int fewest = 99;
        for (int w = 0; w < h.words.size(); w++) {
            String word = h.words.get(w);
            if ((before == -1 || h.may(before, w)) && word.length() <= rest.length()) {
                int changed = 0;
                for (int i = 0; i < word.length(); i++) {
                    changed += word.charAt(i) == rest.charAt(i) ? 0 : 1;
                }
                fewest = Math.min(fewest, changed + mend(h, rest.substring(word.length()), w));
            }
        }
        return fewest;
    }

    int echo(int lines, int a, int b, boolean place) {
        String one = lineAt(lines, a);
        String other = lineAt(lines, b);
        if (one == null || other == null) {
            return -2;
        }
        for (int n = one.length(); n > 0; n--) {
            for (int i = 0; i + n <= one.length(); i++) {
                if (other.contains(one.substring(i, i + n))) {
                    return place ? i : n;
                }
            }
        }
        return place ? -1 : 0;
    }

    // ---- hills

    int sentences(int hill, int n) {
        OHill h = hillAt(hill);
        if (h == null || n < 0 || n > 6) {
            return -1;
        }
        if (Math.pow(h.words.size(), n) > 20000) {
            return UNKNOWN;
        }
        return rows(h, -1, n);
    }

    private static int rows(OHill h, int before, int n) {
        if (n == 0) {
            return 1;
        }
        int sum = 0;
        for (int w = 0; w < h.words.size(); w++) {
            sum += before == -1 || h.may(before, w) ? rows(h, w, n - 1) : 0;
        }
        return sum;
    }

    /** All rows of LETTERS at once: how many runs (2: or more) of READINGS stand at each LETTER of each WORD. */
    int twice(int hill) {
        OHill h = hillAt(hill);
        if (h == null) {
            return -1;
        }
        Set<String> now = new HashSet<>();
        now.add("");
        for (int length = 1; length <= 24; length++) {
            Set<String> later = new HashSet<>();
            for (String runs : now) {
                for (char c = 'a'; c <= 'f'; c++) {
                    int[] counts = new int[70];
                    int whole = advance(h, runs, c, counts);
                    if (whole > 1) {
                        return length;
                    }
                    if (Arrays.stream(counts).sum() > 0) {
                        later.add(packed(counts));
                    }
                }
            }
            if (later.size() > 3000) {
                return UNKNOWN;
            }
            now = later;
        }
        return -1;
    }

    private static String packed(int[] counts) {
        StringBuilder s = new StringBuilder();
        for (int c : counts) {
            s.append((char) ('0' + c));
        }
        return s.toString();
    }

    private static int advance(OHill h, String runs, char c, int[] counts) {
        int whole = 0;
        for (int w = 0; w < h.words.size(); w++) {
            String word = h.words.get(w);
            for (int k = 0; k < word.length(); k++) {
                if (word.charAt(k) == c) {
                    int before = k == 0 ? startsOf(h, runs, w) : runs.isEmpty() ? 0 : runs.charAt(7 * w + k - 1) - '0';
                    counts[7 * w + k] = Math.min(2, before);
                    whole += k == word.length() - 1 ? counts[7 * w + k] : 0;
                }
            }
        }
        return whole;
    }

    private static int startsOf(OHill h, String runs, int w) {
        if (runs.isEmpty()) {
            return 1;
        }
        int sum = 0;
        for (int v = 0; v < h.words.size(); v++) {
            sum += h.may(v, w) ? runs.charAt(7 * v + h.words.get(v).length() - 1) - '0' : 0;
        }
        return sum;
    }

    int ghost(int hill, boolean first) {
        OHill h = hillAt(hill);
        if (h == null) {
            return -2;
        }
        for (char c = 'a'; c <= 'f'; c++) {
            if (!saidWords(h, "" + c).isEmpty() && !h.words.contains("" + c) && !wins(h, "" + c)) {
                return first ? c - 'a' : 1;
            }
        }
        return first ? -1 : 0;
    }

    private static boolean wins(OHill h, String there) {
        for (char c = 'a'; c <= 'f'; c++) {
            String more = there + c;
            if (!saidWords(h, more).isEmpty() && !h.words.contains(more) && !wins(h, more)) {
                return true;
            }
        }
        return false;
    }

    int alike(int hill, int a, int b, boolean apart) {
        OHill h = hillAt(hill);
        if (h == null || a < 0 || b < 0 || a >= h.words.size() || b >= h.words.size()) {
            return -1;
        }
        String one = h.words.get(a);
        String other = h.words.get(b);
        if (apart) {
            return changes(one, other);
        }
        int n = Math.min(one.length(), other.length());
        while (!one.substring(0, n).equals(other.substring(0, n))) {
            n--;
        }
        return n;
    }

    int tree(int hill, int what) {
        OHill h = hillAt(hill);
        if (h == null || what < 0) {
            return -2;
        }
        int words = h.words.size();
        Set<String> beginnings = new HashSet<>();
        int least = -1;
        int couple = -1;
        for (int a = words - 1; a >= 0; a--) {
            for (int b = words - 1; b > a; b--) {
                int apart = changes(h.words.get(a), h.words.get(b));
                if (least == -1 || apart <= least) {
                    least = apart;
                    couple = 10 * a + b;
                }
            }
            for (int n = 1; n <= h.words.get(a).length(); n++) {
                beginnings.add(h.words.get(a).substring(0, n));
            }
        }
        switch (what) {
            case 0: return couple;
            case 1: return least;
            case 2: return beginnings.size();
            case 3: return bitsOf(within(h, saidWords(h, "")));
            case 4:
                int bits = 0;
                for (int q = 0; q < 6; q++) {
                    bits |= within(h, answersOf(h, q)).isEmpty() ? 0 : 1 << q;
                }
                return bits;
            default: return what >= 10 && what - 10 < words ? bitsOf(leads(h, what - 10)) : -2;
        }
    }

    private static List<Integer> within(OHill h, List<Integer> all) {
        List<Integer> found = new ArrayList<>();
        for (int w : all) {
            if (all.stream().anyMatch(v -> v != w && h.words.get(v).startsWith(h.words.get(w)))) {
                found.add(w);
            }
        }
        return found;
    }

    private static Set<Integer> leads(OHill h, int w) {
        Set<Integer> found = new HashSet<>();
        List<Integer> open = new ArrayList<>(List.of(w));
        while (!open.isEmpty()) {
            for (int v : behind(h, open.remove(0))) {
                if (found.add(v)) {
                    open.add(v);
                }
            }
        }
        return found;
    }

    int chain(int hill, int k) {
        OHill h = hillAt(hill);
        if (h == null) {
            return -1;
        }
        if (h.words.size() > 7) {
            return UNKNOWN;
        }
        List<Integer> best = new ArrayList<>();
        chains(h, new ArrayList<>(), best);
        return k == -1 ? best.size() : k < 0 || k >= best.size() ? -1 : best.get(k);
    }

    private static void chains(OHill h, List<Integer> row, List<Integer> best) {
        if (row.size() > best.size()) {
            best.clear();
            best.addAll(row);
        }
        for (int w = 0; w < h.words.size(); w++) {
            if (!row.contains(w) && (row.isEmpty() || h.may(row.get(row.size() - 1), w))) {
                row.add(w);
                chains(h, row, best);
                row.remove(row.size() - 1);
            }
        }
    }

    // ---- logs and chance

    private List<int[]> bestRules(List<List<String>> facts) {
        List<int[]> best = new ArrayList<>();
        int few = 99;
        int last = facts.stream().mapToInt(f -> Integer.parseInt(f.get(1))).max().orElse(0);
        for (int s = 1; s < 10; s++) {
            for (int g = 1; g < 10; g++) {
                for (int w = 1; w < 10; w++) {
                    for (int t = 0; t < 10; t++) {
                        int missed = 0;
                        int places = 0;
                        for (List<String> fact : facts) {
                            int place = Integer.parseInt(fact.get(1));
                            int depth = s;
                            for (int year = w; year <= (last - place) * g + t && depth > 0; year += w) {
                                depth--;
                            }
                            if (depth != Integer.parseInt(fact.get(2))) {
                                missed++;
                                places |= 1 << place;
                            }
                        }
                        if (missed < few) {
                            few = missed;
                            best.clear();
                        }
                        if (missed == few) {
                            best.add(new int[] {s * 1000 + g * 100 + w * 10 + t, missed, places, last * g + t});
                        }
                    }
                }
            }
        }
        return best;
    }

    int forged(int log, int what) {
        List<List<String>> facts = rowsAt(3, log);
        if (facts == null) {
            return -2;
        }
        List<int[]> best = bestRules(facts);
        switch (what) {
            case 0: return best.get(0)[1];
            case 1: return best.size();
            case 2: return best.stream().mapToInt(r -> r[2]).reduce(-1, (a, b) -> a & b);
            default: return what >= 10 && what - 10 < best.size() ? best.get(what - 10)[0] : -2;
        }
    }

    int age(int log, boolean most) {
        List<List<String>> facts = rowsAt(3, log);
        if (facts == null) {
            return -1;
        }
        List<int[]> best = bestRules(facts);
        return most ? best.stream().mapToInt(r -> r[3]).max().orElse(0) : best.stream().mapToInt(r -> r[3]).min().orElse(0);
    }

    long chance(int n, int y, int p, boolean under) {
        if (n < 1 || n > 12 || y < 0 || y > 9 || p < 0 || p > 10) {
            return -1;
        }
        return part(waysToBring(n, y, p), (long) Math.pow(10, y), under);
    }

    private static long waysToBring(int n, int y, int p) {
        if (y == 0) {
            return n <= 0 ? 1 : 0;
        }
        return p * waysToBring(n - 1, y - 1, p) + (10 - p) * waysToBring(n, y - 1, p);
    }

    long waits(int n, int p, boolean under) {
        return n < 1 || n > 12 || p < 1 || p > 10 ? -1 : part(10L * n, p, under);
    }
}
