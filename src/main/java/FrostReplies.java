import java.util.Arrays;

/**
 * Epitaphs are answered: hills, centuries, lines and logs are told as texts and asked about.
 * The document's numbered promises say what each public method answers.
 */
public final class FrostReplies {
    public static final int NONE = -1;

    private static final int ABSENT = -2;

    private static final int TAPE_ROOM = 600;
    private static final int IMAGES = 3;

    private static final int HILLS = 0;
    private static final int CENTURIES = 1;
    private static final int LINE_TEXTS = 2;
    private static final int LOGS = 3;
    private static final int SORTS = 4;
    private static final int MOST_OF_A_SORT = 2;

    private static final int WORDS = 10;
    private static final int WORD_ROOM = 6;
    private static final int ALPHABET = 6;
    private static final int MOST_OFTEN = 99;
    private static final int QUESTIONS = 6;
    private static final int STONES = 4;
    private static final int STONES_AT_FIRST = 2;
    private static final int STONE_ROOM = 12;
    private static final int DEEDS = 40;
    private static final int LINES = 6;
    private static final int LINE_ROOM = 12;
    private static final int FACTS = 8;
    private static final int PLACES = 12;
    private static final int DEPTHS = 10;

    private static final int FROST = 0;
    private static final int FORGE = 1;
    private static final int MOSS = 2;
    private static final int CHIP = 3;
    private static final int SPLIT = 4;

    private static final int MOST_SLIPS = 3;
    private static final int MOST_SENTENCE = 6;
    private static final int MOST_DRAWN = 60;
    private static final int MOST_YEARS = 9;
    private static final int TENTHS = 10;

    private final Told told = new Told();
    private final Told[] images = new Told[IMAGES];
    private final Reader reader = new Reader();
    private final Ground ground = new Ground();
    private final Ear ear = new Ear();
    private final Yard yard = new Yard();
    private final Rules rules = new Rules();

    public FrostReplies() {
    }

    public int feed(int a, int b, int c, int d, int e) {
        if (told.length + 20 > TAPE_ROOM) {
            return NONE;
        }
        told.addBytes(a);
        told.addBytes(b);
        told.addBytes(c);
        told.addBytes(d);
        told.addBytes(e);
        return told.length;
    }

    public int end(int n) {
        if (n < 0 || n > told.length) {
            return NONE;
        }
        told.length = n;
        return n;
    }

    public int text(int sort, int at) {
        int length = told.length;
        // the tape is taken by every call, also by one that reads no text
        told.length = 0;
        told.fault = 0;
        told.faultPlace = NONE;
        int many = told.many(sort);
        boolean there = at >= 0 && at < many;
        boolean further = at == NONE && many >= 0 && many < MOST_OF_A_SORT;
        if (!there && !further) {
            return ABSENT;
        }
        reader.read(told.tape, length, sort);
        told.fault = reader.fault;
        told.faultPlace = reader.faultPlace;
        if (reader.fault != 0) {
            return NONE;
        }
        int slot = there ? at : many;
        told.keep(reader, sort, slot);
        return slot;
    }

    public int fault(int what) {
        switch (what) {
            case 0: return told.fault;
            case 1: return told.faultPlace;
            default: return NONE;
        }
    }

    public int hill(int hill, int what) {
        Hill asked = told.hillOf(hill);
        return asked == null ? NONE : asked.look(what);
    }

    public int deed(int century, int k, int what) {
        Century asked = told.centuryOf(century);
        return asked == null ? ABSENT : asked.look(k, what);
    }

    public int stop(int hill, int century) {
        Hill place = told.hillOf(hill);
        Century time = told.centuryOf(century);
        return place == null || time == null ? NONE : ground.play(place, time, time.size);
    }

    public int state(int hill, int century, int n, int what) {
        Hill place = told.hillOf(hill);
        Century time = told.centuryOf(century);
        if (place == null || time == null || n < 0 || n > time.size) {
            return ABSENT;
        }
        return ground.play(place, time, n) < n ? ABSENT : ground.look(what);
    }

    public int line(int lines, int k, int i) {
        Lines asked = told.linesOf(lines);
        return asked == null ? ABSENT : asked.look(k, i);
    }

    public int said(int hill, int lines, int k, int what) {
        if (!ear.hears(told.hillOf(hill), told.linesOf(lines), k)) {
            return ABSENT;
        }
        switch (what) {
            case 0: return ear.heard();
            case 1: return ear.likely();
            default: return ABSENT;
        }
    }

    public long odds(int hill, int lines, int k, int word, boolean under) {
        Hill place = told.hillOf(hill);
        if (!ear.hears(place, told.linesOf(lines), k) || place == null || !place.hasWord(word)) {
            return NONE;
        }
        int bits = ear.heard();
        return least(has(bits, word) ? place.oftenOf(word) : 0, place.oftenOfAll(bits), under);
    }

    public long sure(int hill, int lines, int k, boolean under) {
        Hill place = told.hillOf(hill);
        if (!ear.hears(place, told.linesOf(lines), k) || place == null) {
            return NONE;
        }
        int bits = ear.heard();
        return least(place.lettersTillSure(bits, ear.size), place.oftenOfAll(bits), under);
    }

    public int reading(int hill, int lines, int k, int i) {
        if (!ear.hears(told.hillOf(hill), told.linesOf(lines), k)) {
            return NONE;
        }
        return i == NONE ? ear.readings() : ear.wordOfFirstReading(i);
    }

    public int slips(int hill, int lines, int k, int n) {
        if (n < 0 || n > MOST_SLIPS || !ear.hears(told.hillOf(hill), told.linesOf(lines), k)) {
            return NONE;
        }
        return ear.slipsUpTo(n);
    }

    public long asked(int hill, int question, boolean under) {
        Hill place = told.hillOf(hill);
        if (place == null || question < 0 || question >= QUESTIONS) {
            return NONE;
        }
        int bits = got(place.answers, question);
        return least(place.lettersTillSure(bits, 0), place.oftenOfAll(bits), under);
    }

    public int soonest(int hill) {
        Hill place = told.hillOf(hill);
        return place == null ? NONE : place.soonestAnswered();
    }

    public int sentences(int hill, int n) {
        Hill place = told.hillOf(hill);
        return place == null || n < 0 || n > MOST_SENTENCE ? NONE : yard.rowsOf(place, n);
    }

    public int twice(int hill) {
        Hill place = told.hillOf(hill);
        return place == null ? NONE : yard.shortestReadTwice(place);
    }

    public int ghost(int hill, boolean first) {
        Hill place = told.hillOf(hill);
        if (place == null) {
            return ABSENT;
        }
        int letter = winningLetter(place, 0, 0);
        return first ? letter : letter == NONE ? 0 : 1;
    }

    public int fact(int log, int k, int what) {
        Log asked = told.logOf(log);
        return asked == null ? ABSENT : asked.look(k, what);
    }

    public int forged(int log, int what) {
        Log asked = told.logOf(log);
        if (asked == null) {
            return ABSENT;
        }
        rules.weigh(asked);
        return rules.judge(what);
    }

    public long chance(int n, int y, int p, boolean under) {
        if (n < 1 || n > STONE_ROOM || y < 0 || y > MOST_YEARS || p < 0 || p > TENTHS) {
            return NONE;
        }
        long below = 1;
        for (int i = 0; i < y; i++) {
            below *= TENTHS;
        }
        long above = 0;
        for (int k = n; k <= y; k++) {
            above += waysOfExactly(k, y, p);
        }
        return least(above, below, under);
    }

    public int drawn(int hill, int seed, int n, int what) {
        Hill place = told.hillOf(hill);
        if (place == null || n < 0 || n > MOST_DRAWN) {
            return ABSENT;
        }
        ground.draw(place, seed, n);
        return ground.look(what);
    }

    public int next(int hill, int lines, int k, int what) {
        if (!ear.hears(told.hillOf(hill), told.linesOf(lines), k)) {
            return ABSENT;
        }
        switch (what) {
            case 0: return ear.lettersBehind();
            case 1: return ear.keenest();
            case 2: return ear.mended();
            default: return ABSENT;
        }
    }

    public int echo(int lines, int a, int b, boolean place) {
        Lines asked = told.linesOf(lines);
        if (asked == null || !asked.hasLine(a) || !asked.hasLine(b)) {
            return ABSENT;
        }
        return asked.longestInBoth(a, b, place);
    }

    public int alike(int hill, int a, int b, boolean apart) {
        Hill place = told.hillOf(hill);
        if (place == null || !place.hasWord(a) || !place.hasWord(b)) {
            return NONE;
        }
        return apart ? ear.changesBetween(place, a, b) : place.sameLettersAtFirst(a, b);
    }

    public int tree(int hill, int what) {
        Hill place = told.hillOf(hill);
        if (place == null) {
            return ABSENT;
        }
        switch (what) {
            case 0: return ear.closest(place, true);
            case 1: return ear.closest(place, false);
            case 2: return place.unlikeBeginnings();
            case 3: return place.wordsWithin(place.all());
            case 4: return place.unsureQuestions();
            default: return place.hasWord(what - 10) ? place.leadsOf(what - 10) : ABSENT;
        }
    }

    public int chain(int hill, int k) {
        Hill place = told.hillOf(hill);
        if (place == null) {
            return NONE;
        }
        int longest = yard.longestChain(place);
        return k == NONE ? longest : yard.wordOfFirstChain(place, longest, k);
    }

    public int after(int hill, int century, int what) {
        Hill place = told.hillOf(hill);
        Century time = told.centuryOf(century);
        if (place == null || time == null) {
            return ABSENT;
        }
        ground.play(place, time, time.size);
        switch (what) {
            case 0: return ground.wordiest();
            case 1: return ground.firstToldBy;
            case 2: return ground.fullest;
            case 3: return ground.feigned();
            default: return ABSENT;
        }
    }

    public int age(int log, boolean most) {
        Log asked = told.logOf(log);
        if (asked == null) {
            return NONE;
        }
        rules.weigh(asked);
        return rules.years(most);
    }

    public long waits(int n, int p, boolean under) {
        if (n < 1 || n > STONE_ROOM || p < 1 || p > TENTHS) {
            return NONE;
        }
        return least((long) n * TENTHS, p, under);
    }

    public int count(int sort) {
        return told.many(sort);
    }

    public boolean image(int k) {
        if (k < 0 || k >= images.length) {
            return false;
        }
        Told kept = images[k];
        if (kept == null) {
            kept = new Told();
            images[k] = kept;
        }
        kept.copy(told);
        return true;
    }

    public boolean again(int k) {
        if (k < 0 || k >= images.length) {
            return false;
        }
        Told kept = images[k];
        if (kept == null) {
            return false;
        }
        told.copy(kept);
        return true;
    }

    /** The least LETTER by which the one whose turn it is wins, when the first n LETTERS of a WORD are there. */
    private static int winningLetter(Hill hill, int word, int n) {
        // A WORD has no more LETTERS than that, so the game can't go on there.
        if (n < 0 || n >= WORD_ROOM || !hill.hasWord(word)) {
            return NONE;
        }
        for (int letter = 0; letter < ALPHABET; letter++) {
            int longer = hill.wordGoingOn(word, n, letter);
            if (longer != NONE && !hill.isWhole(longer, n + 1) && winningLetter(hill, longer, n + 1) == NONE) {
                return letter;
            }
        }
        return NONE;
    }

    /** Of all 10^y ways that y years can go, in how many just k frosts bring a LETTER. */
    private static long waysOfExactly(int k, int y, int p) {
        long ways = 1;
        for (int i = 1; i <= k; i++) {
            ways = ways * (y - k + i) / i;
        }
        for (int i = 0; i < y; i++) {
            ways *= i < k ? p : TENTHS - p;
        }
        return ways;
    }

    /** One half of a fraction in least terms; NONE if nothing stands below, as of nothing there is no mean. */
    private static long least(long above, long below, boolean under) {
        if (above < 0 || below <= 0) {
            return NONE;
        }
        long divisor = commonDivisor(above, below);
        return divisor == 0 ? NONE : (under ? below : above) / divisor;
    }

    private static long commonDivisor(long above, long below) {
        long a = below;
        long b = above;
        // Two rounds at the most halve what is left of a long, so 200 are more than it ever needs.
        for (int i = 0; i < 200 && b != 0; i++) {
            long rest = a % b;
            a = b;
            b = rest;
        }
        return a;
    }

    private static boolean has(int bits, int i) {
        return i >= 0 && i < 31 && (bits >> i & 1) == 1;
    }

    private static int bit(int i) {
        return i >= 0 && i < 31 ? 1 << i : 0;
    }

    private static int lowest(int bits) {
        for (int i = 0; i < 31; i++) {
            if (has(bits, i)) {
                return i;
            }
        }
        return NONE;
    }

    // Every element is read and written through these two, so that no index is ever outside its row.
    private static int got(int[] row, int i) {
        return row != null && i >= 0 && i < row.length ? row[i] : 0;
    }

    private static void put(int[] row, int i, int value) {
        if (row != null && i >= 0 && i < row.length) {
            row[i] = value;
        }
    }

    private static void copyRow(int[] from, int[] to) {
        if (from != null && to != null) {
            System.arraycopy(from, 0, to, 0, Math.min(from.length, to.length));
        }
    }

    private static final class Hill {
        int stones = STONES_AT_FIRST;
        int words;
        boolean followsTold;
        int wordsToldOf;
        final int[] sizes = new int[WORDS];
        final int[] often = new int[WORDS];
        final int[] follows = new int[WORDS];
        final int[] letters = new int[WORDS * WORD_ROOM];
        final int[] answers = new int[QUESTIONS];

        void clear() {
            stones = STONES_AT_FIRST;
            words = 0;
            followsTold = false;
            wordsToldOf = 0;
            Arrays.fill(follows, 0);
            Arrays.fill(answers, 0);
        }

        static void copy(Hill from, Hill to) {
            if (from == null || to == null) {
                return;
            }
            to.stones = from.stones;
            to.words = from.words;
            to.followsTold = from.followsTold;
            to.wordsToldOf = from.wordsToldOf;
            copyRow(from.sizes, to.sizes);
            copyRow(from.often, to.often);
            copyRow(from.follows, to.follows);
            copyRow(from.letters, to.letters);
            copyRow(from.answers, to.answers);
        }

        int look(int what) {
            if (what == 0) {
                return stones;
            }
            if (what == 1) {
                return words;
            }
            if (what >= 100) {
                int at = what - 100;
                int w = at / WORD_ROOM;
                int k = at % WORD_ROOM;
                return hasWord(w) && k < sizeOf(w) ? letterOf(w, k) : NONE;
            }
            if (what >= 40 && what < 40 + QUESTIONS) {
                return got(answers, what - 40);
            }
            return what >= 10 && what < 40 ? lookAtWord(what / 10, what % 10) : NONE;
        }

        private int lookAtWord(int sort, int w) {
            if (!hasWord(w)) {
                return NONE;
            }
            switch (sort) {
                case 1: return sizeOf(w);
                case 2: return oftenOf(w);
                case 3: return behind(w);
                default: return NONE;
            }
        }

        boolean hasWord(int w) {
            return w >= 0 && w < words;
        }

        int sizeOf(int w) {
            return got(sizes, w);
        }

        int oftenOf(int w) {
            return got(often, w);
        }

        int letterOf(int w, int k) {
            return got(letters, w * WORD_ROOM + k);
        }

        int all() {
            return (1 << words) - 1;
        }

        /** WORDS (bits) that may come behind one; behind none, at the first place, any may come. */
        int behind(int w) {
            return followsTold && w != NONE ? got(follows, w) : all();
        }

        int oftenOfAll(int bits) {
            int sum = 0;
            for (int w = 0; w < words; w++) {
                if (has(bits, w)) {
                    sum += oftenOf(w);
                }
            }
            return sum;
        }

        /** WORDS (bits) that begin with n LETTERS of a row. */
        int beginningWith(int[] row, int from, int n) {
            int bits = 0;
            for (int w = 0; w < words; w++) {
                boolean begins = n <= got(sizes, w);
                for (int k = 0; k < n && begins; k++) {
                    begins = got(letters, w * WORD_ROOM + k) == got(row, from + k);
                }
                if (begins) {
                    bits |= bit(w);
                }
            }
            return bits;
        }

        /** How many of the first n LETTERS of a WORD are not as in a row. */
        int changesAt(int w, int[] row, int from, int n) {
            int changes = 0;
            for (int k = 0; k < n; k++) {
                if (letterOf(w, k) != got(row, from + k)) {
                    changes++;
                }
            }
            return changes;
        }

        int sameLettersAtFirst(int a, int b) {
            int most = Math.min(sizeOf(a), sizeOf(b));
            int same = 0;
            while (same < most && letterOf(a, same) == letterOf(b, same)) {
                same++;
            }
            return same;
        }

        boolean isWithin(int shorter, int longer) {
            return sizeOf(shorter) < sizeOf(longer) && sameLettersAtFirst(shorter, longer) == sizeOf(shorter);
        }

        /** Of those in bits that all begin with n LETTERS alike: LETTERS still needed, times OFTEN, in all. */
        int lettersTillSure(int bits, int n) {
            int sum = 0;
            for (int w = 0; w < words; w++) {
                if (has(bits, w)) {
                    sum += (lettersToTell(bits, w, n) - n) * oftenOf(w);
                }
            }
            return sum;
        }

        private int lettersToTell(int bits, int w, int n) {
            int needed = n;
            for (int v = 0; v < words; v++) {
                if (v != w && has(bits, v)) {
                    needed = Math.max(needed, sameLettersAtFirst(v, w) + 1);
                }
            }
            return Math.min(needed, sizeOf(w));
        }

        int soonestAnswered() {
            int soonest = NONE;
            long sum = 0;
            long weight = 0;
            for (int q = 0; q < QUESTIONS; q++) {
                int bits = got(answers, q);
                long otherSum = lettersTillSure(bits, 0);
                long otherWeight = oftenOfAll(bits);
                if (otherWeight > 0 && (soonest == NONE || otherSum * weight < sum * otherWeight)) {
                    soonest = q;
                    sum = otherSum;
                    weight = otherWeight;
                }
            }
            return soonest;
        }

        /** The least WORD that begins as another one with n LETTERS and goes on with this LETTER. */
        int wordGoingOn(int word, int n, int letter) {
            for (int w = 0; w < words; w++) {
                if (n < sizeOf(w) && letterOf(w, n) == letter && (n == 0 || sameLettersAtFirst(w, word) >= n)) {
                    return w;
                }
            }
            return NONE;
        }

        /** Whether the first n LETTERS of a WORD are a WORD. */
        boolean isWhole(int word, int n) {
            for (int w = 0; w < words; w++) {
                if (sizeOf(w) == n && sameLettersAtFirst(w, word) == n) {
                    return true;
                }
            }
            return false;
        }

        int unlikeBeginnings() {
            int sum = 0;
            for (int w = 0; w < words; w++) {
                int known = 0;
                for (int v = 0; v < w; v++) {
                    known = Math.max(known, sameLettersAtFirst(v, w));
                }
                sum += sizeOf(w) - known;
            }
            return sum;
        }

        /** Of those in bits the ones (bits) with which another of them begins. */
        int wordsWithin(int bits) {
            int within = 0;
            for (int w = 0; w < words; w++) {
                for (int v = 0; v < words; v++) {
                    if (has(bits, w) && has(bits, v) && isWithin(w, v)) {
                        within |= bit(w);
                    }
                }
            }
            return within;
        }

        int unsureQuestions() {
            int bits = 0;
            for (int q = 0; q < QUESTIONS; q++) {
                if (wordsWithin(got(answers, q)) != 0) {
                    bits |= bit(q);
                }
            }
            return bits;
        }

        int leadsOf(int word) {
            int reached = behind(word);
            // A WORD that can be reached at all is reached by as many steps as there are WORDS.
            for (int step = 0; step < words; step++) {
                for (int w = 0; w < words; w++) {
                    if (has(reached, w)) {
                        reached |= behind(w);
                    }
                }
            }
            return reached;
        }

        boolean hasTwoAlike() {
            for (int w = 0; w < words; w++) {
                for (int v = 0; v < w; v++) {
                    if (sizeOf(v) == sizeOf(w) && sameLettersAtFirst(v, w) == sizeOf(w)) {
                        return true;
                    }
                }
            }
            return false;
        }
    }

    private static final class Century {
        int size;
        final int[] kinds = new int[DEEDS];
        final int[] stones = new int[DEEDS];
        final int[] letters = new int[DEEDS];

        static void copy(Century from, Century to) {
            if (from == null || to == null) {
                return;
            }
            to.size = from.size;
            copyRow(from.kinds, to.kinds);
            copyRow(from.stones, to.stones);
            copyRow(from.letters, to.letters);
        }

        int look(int k, int what) {
            if (k == NONE && what == 0) {
                return size;
            }
            if (k < 0 || k >= size) {
                return ABSENT;
            }
            switch (what) {
                case 0: return got(kinds, k);
                case 1: return got(stones, k);
                case 2: return got(letters, k);
                default: return ABSENT;
            }
        }
    }

    private static final class Lines {
        int size;
        final int[] sizes = new int[LINES];
        final int[] letters = new int[LINES * LINE_ROOM];

        static void copy(Lines from, Lines to) {
            if (from == null || to == null) {
                return;
            }
            to.size = from.size;
            copyRow(from.sizes, to.sizes);
            copyRow(from.letters, to.letters);
        }

        boolean hasLine(int k) {
            return k >= 0 && k < size;
        }

        int letterOf(int k, int i) {
            return got(letters, k * LINE_ROOM + i);
        }

        int look(int k, int i) {
            if (k == NONE && i == 0) {
                return size;
            }
            if (!hasLine(k)) {
                return ABSENT;
            }
            if (i == NONE) {
                return got(sizes, k);
            }
            return i >= 0 && i < got(sizes, k) ? letterOf(k, i) : ABSENT;
        }

        int longestInBoth(int a, int b, boolean place) {
            int longest = 0;
            int begins = NONE;
            for (int i = 0; i < got(sizes, a); i++) {
                for (int j = 0; j < got(sizes, b); j++) {
                    int run = sameFrom(a, i, b, j);
                    if (run > longest) {
                        longest = run;
                        begins = i;
                    }
                }
            }
            return place ? begins : longest;
        }

        private int sameFrom(int a, int i, int b, int j) {
            int most = Math.min(got(sizes, a) - i, got(sizes, b) - j);
            int run = 0;
            while (run < most && letterOf(a, i + run) == letterOf(b, j + run)) {
                run++;
            }
            return run;
        }
    }

    private static final class Log {
        int size;
        final int[] places = new int[FACTS];
        final int[] depths = new int[FACTS];

        static void copy(Log from, Log to) {
            if (from == null || to == null) {
                return;
            }
            to.size = from.size;
            copyRow(from.places, to.places);
            copyRow(from.depths, to.depths);
        }

        int look(int k, int what) {
            if (k == NONE && what == 0) {
                return size;
            }
            if (k < 0 || k >= size) {
                return ABSENT;
            }
            switch (what) {
                case 0: return got(places, k);
                case 1: return got(depths, k);
                default: return ABSENT;
            }
        }

        int lastPlace() {
            int last = 0;
            for (int k = 0; k < size; k++) {
                last = Math.max(last, got(places, k));
            }
            return last;
        }
    }

    /**
     * The RULES by one LOG. A PACE is what a RULE has beside s: g, w, t, by numbers; all nine s of a PACE are looked at
     * at once, as the DEPTH that a FACT tells leaves but one s, or all up to one.
     */
    private static final class Rules {
        private static final int PACES = 9 * 9 * 10;
        private static final int STARTS = 9;

        private Log log = new Log();
        private int last;
        private int most;
        private final int[] hits = new int[STARTS + 1];
        private final int[] mostByPace = new int[PACES];
        private final int[] startsByPace = new int[PACES];

        private static int gap(int pace) {
            return pace / 90 + 1;
        }

        private static int wear(int pace) {
            return pace / 10 % 9 + 1;
        }

        private static int since(int pace) {
            return pace % 10;
        }

        void weigh(Log asked) {
            log = asked;
            last = log.lastPlace();
            most = 0;
            for (int pace = 0; pace < PACES; pace++) {
                countHits(pace);
                keepBest(pace);
                most = Math.max(most, got(mostByPace, pace));
            }
        }

        /** How many FACTS are so, by s. */
        private void countHits(int pace) {
            Arrays.fill(hits, 0);
            for (int k = 0; k < log.size; k++) {
                int depth = got(log.depths, k);
                int less = lessBy(pace, got(log.places, k));
                int highest = Math.min(STARTS, less + depth);
                int lowest = depth == 0 ? 1 : less + depth;
                for (int s = lowest; s <= highest; s++) {
                    put(hits, s, got(hits, s) + 1);
                }
            }
        }

        private int lessBy(int pace, int place) {
            int wear = wear(pace);
            return wear < 1 ? 0 : ((last - place) * gap(pace) + since(pace)) / wear;
        }

        private void keepBest(int pace) {
            int best = 0;
            int starts = 0;
            for (int s = 1; s <= STARTS; s++) {
                int here = got(hits, s);
                if (here > best) {
                    best = here;
                    starts = 0;
                }
                if (here == best) {
                    starts |= bit(s);
                }
            }
            put(mostByPace, pace, best);
            put(startsByPace, pace, starts);
        }

        /** All s (bits) by which a PACE FITS best. */
        private int startsOf(int pace) {
            return got(mostByPace, pace) == most ? got(startsByPace, pace) : 0;
        }

        int judge(int what) {
            switch (what) {
                case 0: return log.size - most;
                case 1: return howMany();
                case 2: return missedByAll();
                default: return what >= 10 ? ruleOf(what - 10) : ABSENT;
            }
        }

        private int howMany() {
            int sum = 0;
            for (int pace = 0; pace < PACES; pace++) {
                sum += Integer.bitCount(startsOf(pace));
            }
            return sum;
        }

        private int ruleOf(int k) {
            int seen = 0;
            for (int s = 1; s <= STARTS; s++) {
                for (int pace = 0; pace < PACES; pace++) {
                    if (has(startsOf(pace), s)) {
                        if (seen == k) {
                            return 1000 * s + 100 * gap(pace) + 10 * wear(pace) + since(pace);
                        }
                        seen++;
                    }
                }
            }
            return ABSENT;
        }

        private int missedByAll() {
            int bits = (1 << PLACES) - 1;
            for (int pace = 0; pace < PACES && bits != 0; pace++) {
                for (int s = 1; s <= STARTS; s++) {
                    if (has(startsOf(pace), s)) {
                        bits &= missedPlaces(s, pace);
                    }
                }
            }
            return bits;
        }

        private int missedPlaces(int s, int pace) {
            int bits = 0;
            for (int k = 0; k < log.size; k++) {
                int place = got(log.places, k);
                if (Math.max(0, s - lessBy(pace, place)) != got(log.depths, k)) {
                    bits |= bit(place);
                }
            }
            return bits;
        }

        int years(boolean oldest) {
            int found = NONE;
            for (int pace = 0; pace < PACES; pace++) {
                int years = last * gap(pace) + since(pace);
                boolean better = found == NONE || (oldest ? years > found : years < found);
                if (better && startsOf(pace) != 0) {
                    found = years;
                }
            }
            return found;
        }
    }

    /** All that is told: an image is another one of these. */
    private static final class Told {
        final int[] tape = new int[TAPE_ROOM];
        int length;
        int fault;
        int faultPlace = NONE;
        private final int[] counts = new int[SORTS];
        private final Hill[] hills = new Hill[MOST_OF_A_SORT];
        private final Century[] centuries = new Century[MOST_OF_A_SORT];
        private final Lines[] lines = new Lines[MOST_OF_A_SORT];
        private final Log[] logs = new Log[MOST_OF_A_SORT];

        Told() {
            for (int i = 0; i < MOST_OF_A_SORT; i++) {
                hills[i] = new Hill();
                centuries[i] = new Century();
                lines[i] = new Lines();
                logs[i] = new Log();
            }
        }

        void copy(Told other) {
            copyRow(other.tape, tape);
            length = other.length;
            fault = other.fault;
            faultPlace = other.faultPlace;
            copyRow(other.counts, counts);
            for (int i = 0; i < MOST_OF_A_SORT; i++) {
                Hill.copy(other.hills[i], hills[i]);
                Century.copy(other.centuries[i], centuries[i]);
                Lines.copy(other.lines[i], lines[i]);
                Log.copy(other.logs[i], logs[i]);
            }
        }

        void addBytes(int four) {
            for (int shift = 24; shift >= 0; shift -= 8) {
                put(tape, length, four >>> shift & 255);
                length++;
            }
        }

        int many(int sort) {
            return sort < 0 || sort >= SORTS ? ABSENT : got(counts, sort);
        }

        void keep(Reader read, int sort, int slot) {
            if (slot < 0 || slot >= MOST_OF_A_SORT) {
                return;
            }
            put(counts, sort, Math.max(got(counts, sort), slot + 1));
            switch (sort) {
                case HILLS: Hill.copy(read.hill, hills[slot]); break;
                case CENTURIES: Century.copy(read.century, centuries[slot]); break;
                case LINE_TEXTS: Lines.copy(read.lines, lines[slot]); break;
                case LOGS: Log.copy(read.log, logs[slot]); break;
                default: break;
            }
        }

        private boolean hasOne(int sort, int i) {
            return i >= 0 && i < got(counts, sort) && i < MOST_OF_A_SORT;
        }

        Hill hillOf(int i) {
            return hasOne(HILLS, i) ? hills[i] : null;
        }

        Century centuryOf(int i) {
            return hasOne(CENTURIES, i) ? centuries[i] : null;
        }

        Lines linesOf(int i) {
            return hasOne(LINE_TEXTS, i) ? lines[i] : null;
        }

        Log logOf(int i) {
            return hasOne(LOGS, i) ? logs[i] : null;
        }
    }

    /** The tape cut into TOKENS, one at a time. */
    private static final class Tokens {
        static final int END = 0;
        static final int ROW = 1;
        static final int NUMBER = 2;
        static final int MARK = 3;
        static final int NO_TOKEN = 4;

        private int[] tape;
        private int length;
        private int at;
        int kind;
        int start;
        int size;
        int number;

        void begin(int[] bytes, int many) {
            tape = bytes;
            length = many;
            at = 0;
        }

        void step() {
            while (at < length && isBlank(got(tape, at))) {
                at++;
            }
            start = at;
            if (at >= length) {
                kind = END;
            } else if (isLetter(got(tape, at))) {
                stepOverRow();
            } else if (isDigit(got(tape, at))) {
                stepOverDigits();
            } else {
                kind = got(tape, at) == ';' ? MARK : NO_TOKEN;
                at++;
            }
            size = at - start;
        }

        private void stepOverRow() {
            kind = ROW;
            while (at < length && isLetter(got(tape, at))) {
                at++;
            }
        }

        private void stepOverDigits() {
            number = 0;
            while (at < length && isDigit(got(tape, at))) {
                number = number * 10 + got(tape, at) - '0';
                at++;
            }
            kind = at - start <= 2 ? NUMBER : NO_TOKEN;
        }

        boolean is(String key) {
            if (kind != ROW || size != key.length()) {
                return false;
            }
            for (int i = 0; i < size; i++) {
                if (got(tape, start + i) != key.charAt(i)) {
                    return false;
                }
            }
            return true;
        }

        private static boolean isBlank(int sign) {
            return sign == 10 || sign == 32;
        }

        private static boolean isLetter(int sign) {
            return sign >= 'a' && sign <= 'z';
        }

        private static boolean isDigit(int sign) {
            return sign >= '0' && sign <= '9';
        }
    }

    /** Reads one text into rows of its own, so that a text with a FAULT changes nothing that was told. */
    private static final class Reader {
        private static final int NO_KEY = 0;
        private static final int WORD = 1;
        private static final int FOLLOWS = 2;
        private static final int ASKS = 3;
        private static final int SET_STONES = 4;
        private static final int WITH_LETTER = 5;
        private static final int WITHOUT_LETTER = 6;
        private static final int LINE = 7;
        private static final int DEPTH = 8;

        final Hill hill = new Hill();
        final Century century = new Century();
        final Lines lines = new Lines();
        final Log log = new Log();
        int fault;
        int faultPlace;
        private final Tokens tokens = new Tokens();
        private int[] tape;
        private int keyStart;
        private int deedKind;
        private int firstStart;
        private int firstSize;
        private int firstNumber;
        private int secondStart;
        private int secondSize;
        private int secondNumber;

        void read(int[] bytes, int length, int sort) {
            tape = bytes;
            tokens.begin(bytes, length);
            fault = 0;
            faultPlace = NONE;
            hill.clear();
            century.size = 0;
            lines.size = 0;
            log.size = 0;
            boolean goesOn = true;
            // Each round takes a byte at least.
            for (int i = 0; i <= TAPE_ROOM && goesOn; i++) {
                tokens.step();
                goesOn = tokens.kind != Tokens.END && readOne(keyOf(sort));
            }
            if (fault == 0 && sort == HILLS) {
                lookAtHill(length);
            }
        }

        /** False, with FAULT 1, if no text goes on so. */
        private boolean readOne(int key) {
            keyStart = tokens.start;
            if (key == NO_KEY) {
                return refuse();
            }
            tokens.step();
            if (tokens.kind != (key == WORD || key == LINE ? Tokens.ROW : Tokens.NUMBER)) {
                return refuse();
            }
            keepFirst();
            if (key != SET_STONES && key != WITHOUT_LETTER && key != LINE) {
                tokens.step();
                if (tokens.kind != (key == WITH_LETTER ? Tokens.ROW : Tokens.NUMBER)) {
                    return refuse();
                }
                keepSecond();
            }
            tokens.step();
            if (tokens.kind != Tokens.MARK) {
                return refuse();
            }
            tell(key);
            return true;
        }

        private void keepFirst() {
            firstStart = tokens.start;
            firstSize = tokens.size;
            firstNumber = tokens.number;
        }

        private void keepSecond() {
            secondStart = tokens.start;
            secondSize = tokens.size;
            secondNumber = tokens.number;
        }

        private boolean refuse() {
            fault = 1;
            faultPlace = tokens.start;
            return false;
        }

        private int keyOf(int sort) {
            switch (sort) {
                case HILLS: return hillKey();
                case CENTURIES: return centuryKey();
                case LINE_TEXTS: return tokens.is("line") ? LINE : NO_KEY;
                case LOGS: return tokens.is("depth") ? DEPTH : NO_KEY;
                default: return NO_KEY;
            }
        }

        private int hillKey() {
            if (tokens.is("word")) {
                return WORD;
            }
            if (tokens.is("follows")) {
                return FOLLOWS;
            }
            if (tokens.is("asks")) {
                return ASKS;
            }
            return tokens.is("stones") ? SET_STONES : NO_KEY;
        }

        private int centuryKey() {
            deedKind = deedOfToken();
            if (deedKind == NONE) {
                return NO_KEY;
            }
            return deedKind == FROST || deedKind == FORGE ? WITH_LETTER : WITHOUT_LETTER;
        }

        private int deedOfToken() {
            if (tokens.is("frost")) {
                return FROST;
            }
            if (tokens.is("forge")) {
                return FORGE;
            }
            if (tokens.is("moss")) {
                return MOSS;
            }
            if (tokens.is("chip")) {
                return CHIP;
            }
            return tokens.is("split") ? SPLIT : NONE;
        }

        private void tell(int key) {
            switch (key) {
                case WORD: tellWord(); break;
                case FOLLOWS: tellFollows(); break;
                case ASKS: tellAsks(); break;
                case SET_STONES: tellStones(); break;
                case WITH_LETTER: tellDeed(true); break;
                case WITHOUT_LETTER: tellDeed(false); break;
                case LINE: tellLine(); break;
                case DEPTH: tellFact(); break;
                default: break;
            }
        }

        private void tellWord() {
            boolean room = needRoom(hill.words, WORDS);
            needRow(firstStart, firstSize, WORD_ROOM);
            needNumber(secondStart, secondNumber, 0, MOST_OFTEN);
            if (!room) {
                return;
            }
            int w = hill.words;
            put(hill.sizes, w, Math.min(firstSize, WORD_ROOM));
            put(hill.often, w, secondNumber);
            for (int k = 0; k < firstSize && k < WORD_ROOM; k++) {
                put(hill.letters, w * WORD_ROOM + k, letterAt(firstStart + k));
            }
            hill.words++;
        }

        private void tellFollows() {
            needNumber(firstStart, firstNumber, 0, WORDS - 1);
            needNumber(secondStart, secondNumber, 0, WORDS - 1);
            hill.followsTold = true;
            put(hill.follows, firstNumber, got(hill.follows, firstNumber) | bit(secondNumber));
            hill.wordsToldOf = Math.max(hill.wordsToldOf, Math.max(firstNumber, secondNumber) + 1);
        }

        private void tellAsks() {
            needNumber(firstStart, firstNumber, 0, QUESTIONS - 1);
            needNumber(secondStart, secondNumber, 0, WORDS - 1);
            put(hill.answers, firstNumber, got(hill.answers, firstNumber) | bit(secondNumber));
            hill.wordsToldOf = Math.max(hill.wordsToldOf, secondNumber + 1);
        }

        private void tellStones() {
            needNumber(firstStart, firstNumber, 1, STONES);
            hill.stones = firstNumber;
        }

        private void tellDeed(boolean withLetter) {
            boolean room = needRoom(century.size, DEEDS);
            needNumber(firstStart, firstNumber, 0, STONES - 1);
            if (withLetter) {
                needRow(secondStart, secondSize, 1);
            }
            if (!room) {
                return;
            }
            put(century.kinds, century.size, deedKind);
            put(century.stones, century.size, firstNumber);
            put(century.letters, century.size, withLetter ? letterAt(secondStart) : NONE);
            century.size++;
        }

        private void tellLine() {
            boolean room = needRoom(lines.size, LINES);
            needRow(firstStart, firstSize, LINE_ROOM);
            if (!room) {
                return;
            }
            put(lines.sizes, lines.size, Math.min(firstSize, LINE_ROOM));
            for (int i = 0; i < firstSize && i < LINE_ROOM; i++) {
                put(lines.letters, lines.size * LINE_ROOM + i, letterAt(firstStart + i));
            }
            lines.size++;
        }

        private void tellFact() {
            boolean room = needRoom(log.size, FACTS);
            needNumber(firstStart, firstNumber, 0, PLACES - 1);
            needNumber(secondStart, secondNumber, 0, DEPTHS - 1);
            if (!room) {
                return;
            }
            put(log.places, log.size, firstNumber);
            put(log.depths, log.size, secondNumber);
            log.size++;
        }

        private boolean needRoom(int size, int room) {
            if (size >= room) {
                note(3, keyStart);
            }
            return size < room;
        }

        private void needNumber(int start, int number, int least, int most) {
            if (number < least || number > most) {
                note(2, start);
            }
        }

        private void needRow(int start, int size, int most) {
            boolean fine = size <= most;
            for (int i = 0; i < size && fine; i++) {
                fine = got(tape, start + i) < 'a' + ALPHABET;
            }
            if (!fine) {
                note(2, start);
            }
        }

        private int letterAt(int place) {
            return got(tape, place) - 'a';
        }

        /** Places come in rising order, so the first one noted is the one to tell; FAULT 1 strikes it. */
        private void note(int which, int place) {
            if (fault == 0) {
                fault = which;
                faultPlace = place;
            }
        }

        private void lookAtHill(int end) {
            if (hill.wordsToldOf > hill.words) {
                note(4, end);
            }
            if (hill.hasTwoAlike()) {
                note(5, end);
            }
        }
    }

    /** The STONES of a HILL in one STATE. */
    private static final class Ground {
        private static final int FRESH = 9;
        private static final int FORGED_DEPTH = 5;

        private Hill hill = new Hill();
        private int split;
        int firstToldBy;
        int fullest;
        private final int[] sizes = new int[STONES];
        private final int[] pauses = new int[STONES];
        private final int[] wordsTold = new int[STONES];
        private final int[] lastTold = new int[STONES];
        private final int[] letters = new int[STONES * STONE_ROOM];
        private final int[] depths = new int[STONES * STONE_ROOM];
        private final int[] forgeries = new int[STONES * STONE_ROOM];

        private void begin(Hill place) {
            hill = place;
            split = 0;
            firstToldBy = NONE;
            fullest = 0;
            Arrays.fill(sizes, 0);
            Arrays.fill(pauses, 0);
            Arrays.fill(wordsTold, 0);
            Arrays.fill(lastTold, NONE);
        }

        /** How many of the first n DEEDS are done: fewer than n, if one can't be. */
        int play(Hill place, Century century, int n) {
            begin(place);
            for (int k = 0; k < n; k++) {
                int kind = got(century.kinds, k);
                if (!does(kind, got(century.stones, k), got(century.letters, k))) {
                    return k;
                }
                if (kind == MOSS && firstToldBy == NONE) {
                    firstToldBy = k;
                }
            }
            return n;
        }

        void draw(Hill place, int seed, int n) {
            begin(place);
            int x = seed;
            for (int i = 0; i < n; i++) {
                x = stir(x);
                int number = below(x, 8);
                x = stir(x);
                int stone = below(x, place.stones);
                int kind = number < 5 ? FROST : number == 5 ? MOSS : number == 6 ? FORGE : CHIP;
                int letter = NONE;
                if (kind == FROST || kind == FORGE) {
                    x = stir(x);
                    letter = below(x, ALPHABET);
                }
                does(kind, stone, letter);
            }
        }

        private static int stir(int x) {
            return x * 1103515245 + 12345;
        }

        private static int below(int x, int n) {
            return n < 1 ? 0 : (x >>> 16) % n;
        }

        /** Does a DEED, or nothing, and answers false, if it can't be. */
        private boolean does(int kind, int stone, int letter) {
            if (!isStone(stone) || has(split, stone)) {
                return false;
            }
            switch (kind) {
                case FROST: return freeze(stone, letter);
                case FORGE: return falsify(stone, letter);
                case MOSS: return overgrow(stone);
                case CHIP: return chipOff(stone);
                case SPLIT: split |= bit(stone); return true;
                default: return false;
            }
        }

        private boolean isStone(int stone) {
            return stone >= 0 && stone < hill.stones;
        }

        private int open(int stone) {
            return got(sizes, stone) - got(pauses, stone);
        }

        private boolean freeze(int stone, int letter) {
            int size = got(sizes, stone);
            if (size >= STONE_ROOM) {
                return false;
            }
            // What lies behind the last LETTER counts for nothing, so it may stay there if none FITS.
            put(letters, stone * STONE_ROOM + size, letter);
            if (fitting(stone, open(stone) + 1) == 0) {
                return false;
            }
            for (int k = 0; k < size; k++) {
                int at = stone * STONE_ROOM + k;
                put(depths, at, Math.max(0, got(depths, at) - 1));
            }
            add(stone, letter, FRESH, 0);
            return true;
        }

        private boolean falsify(int stone, int letter) {
            if (got(sizes, stone) >= STONE_ROOM) {
                return false;
            }
            add(stone, letter, FORGED_DEPTH, 1);
            return true;
        }

        private void add(int stone, int letter, int depth, int forgery) {
            int size = got(sizes, stone);
            int at = stone * STONE_ROOM + size;
            put(letters, at, letter);
            put(depths, at, depth);
            put(forgeries, at, forgery);
            put(sizes, stone, size + 1);
            fullest = Math.max(fullest, size + 1);
        }

        private boolean overgrow(int stone) {
            int bits = fitting(stone, open(stone));
            for (int w = 0; w < hill.words; w++) {
                if (has(bits, w) && hill.sizeOf(w) == open(stone)) {
                    put(pauses, stone, got(sizes, stone));
                    put(wordsTold, stone, got(wordsTold, stone) + 1);
                    put(lastTold, stone, w);
                    return true;
                }
            }
            return false;
        }

        private boolean chipOff(int stone) {
            if (open(stone) < 1) {
                return false;
            }
            put(sizes, stone, got(sizes, stone) - 1);
            return true;
        }

        /** WORDS (bits) that FIT, if that many LETTERS behind the last PAUSE are OPEN. */
        private int fitting(int stone, int openLetters) {
            int from = stone * STONE_ROOM + got(pauses, stone);
            return hill.beginningWith(letters, from, openLetters) & hill.behind(got(lastTold, stone));
        }

        private int forgeriesOn(int stone) {
            int sum = 0;
            for (int k = 0; k < got(sizes, stone); k++) {
                sum += got(forgeries, stone * STONE_ROOM + k);
            }
            return sum;
        }

        int look(int what) {
            if (what == 0) {
                return split;
            }
            if (what >= 200) {
                return lookAtLetter(depths, what - 200);
            }
            if (what >= 100) {
                return lookAtLetter(letters, what - 100);
            }
            return what >= 10 && isStone(what % 10) ? lookAtStone(what / 10, what % 10) : ABSENT;
        }

        private int lookAtLetter(int[] row, int at) {
            int stone = at / STONE_ROOM;
            return isStone(stone) && at % STONE_ROOM < got(sizes, stone) ? got(row, at) : ABSENT;
        }

        private int lookAtStone(int sort, int stone) {
            switch (sort) {
                case 1: return got(sizes, stone);
                case 2: return open(stone);
                case 3: return got(wordsTold, stone);
                case 4: return got(lastTold, stone);
                case 5: return fitting(stone, open(stone));
                case 6: return forgeriesOn(stone);
                default: return ABSENT;
            }
        }

        int wordiest() {
            int best = NONE;
            int most = 0;
            for (int stone = 0; stone < hill.stones; stone++) {
                if (got(wordsTold, stone) > most) {
                    most = got(wordsTold, stone);
                    best = stone;
                }
            }
            return best;
        }

        int feigned() {
            int bits = 0;
            for (int stone = 0; stone < hill.stones; stone++) {
                if (forgeriesOn(stone) > 0) {
                    bits |= bit(stone);
                }
            }
            return bits;
        }
    }

    /** One LINE as it is heard on one HILL, with rows to reckon in; and how far WORDS are APART. */
    private static final class Ear {
        private static final int FAR = 1000;

        private Hill hill = new Hill();
        int size;
        private final int[] row = new int[LINE_ROOM];
        private final int[] byPlace = new int[(LINE_ROOM + 1) * WORDS];
        private final int[] changes = new int[LINE_ROOM + 1];

        /** False if there is no such HILL or LINE. */
        boolean hears(Hill place, Lines lines, int k) {
            if (place == null || lines == null || !lines.hasLine(k)) {
                return false;
            }
            hill = place;
            size = got(lines.sizes, k);
            for (int i = 0; i < size; i++) {
                put(row, i, lines.letterOf(k, i));
            }
            return true;
        }

        int heard() {
            return hill.beginningWith(row, 0, size);
        }

        int likely() {
            int bits = heard();
            int best = NONE;
            for (int w = 0; w < WORDS; w++) {
                if (has(bits, w) && (best == NONE || hill.oftenOf(w) > hill.oftenOf(best))) {
                    best = w;
                }
            }
            return best;
        }

        int lettersBehind() {
            int bits = heard();
            int behind = 0;
            for (int w = 0; w < WORDS; w++) {
                if (has(bits, w) && hill.sizeOf(w) > size) {
                    behind |= bit(hill.letterOf(w, size));
                }
            }
            return behind;
        }

        int keenest() {
            int behind = lettersBehind();
            int best = NONE;
            int most = 0;
            for (int letter = 0; letter < ALPHABET; letter++) {
                int often = has(behind, letter) ? oftenGoingOn(letter) : NONE;
                if (often != NONE && (best == NONE || often > most)) {
                    best = letter;
                    most = often;
                }
            }
            return best;
        }

        private int oftenGoingOn(int letter) {
            int bits = heard();
            int sum = 0;
            for (int w = 0; w < WORDS; w++) {
                if (has(bits, w) && hill.sizeOf(w) > size && hill.letterOf(w, size) == letter) {
                    sum += hill.oftenOf(w);
                }
            }
            return sum;
        }

        int readings() {
            countReadings();
            int sum = 0;
            for (int w = 0; w < WORDS; w++) {
                sum += got(byPlace, w);
            }
            return sum;
        }

        /** By place and WORD: in how many ways the LINE can be read from there on, this WORD first. */
        private void countReadings() {
            Arrays.fill(byPlace, 0);
            for (int place = size - 1; place >= 0; place--) {
                for (int w = 0; w < hill.words; w++) {
                    int end = place + hill.sizeOf(w);
                    if (end <= size && hill.changesAt(w, row, place, hill.sizeOf(w)) == 0) {
                        put(byPlace, place * WORDS + w, end == size ? 1 : readingsBehind(end, w));
                    }
                }
            }
        }

        private int readingsBehind(int place, int word) {
            int bits = hill.behind(word);
            int sum = 0;
            for (int w = 0; w < WORDS; w++) {
                if (has(bits, w)) {
                    sum += got(byPlace, place * WORDS + w);
                }
            }
            return sum;
        }

        int wordOfFirstReading(int i) {
            countReadings();
            int place = 0;
            int word = NONE;
            for (int k = 0; k <= i && k < LINE_ROOM; k++) {
                word = leastReadAt(place, word);
                if (word == NONE) {
                    return NONE;
                }
                place += hill.sizeOf(word);
            }
            return i < LINE_ROOM ? word : NONE;
        }

        private int leastReadAt(int place, int before) {
            int bits = hill.behind(before);
            for (int w = 0; w < WORDS && place < size; w++) {
                if (has(bits, w) && got(byPlace, place * WORDS + w) > 0) {
                    return w;
                }
            }
            return NONE;
        }

        int mended() {
            Arrays.fill(byPlace, FAR);
            for (int place = size - 1; place >= 0; place--) {
                for (int w = 0; w < hill.words; w++) {
                    int end = place + hill.sizeOf(w);
                    if (end <= size) {
                        int later = end == size ? 0 : fewestBehind(end, hill.behind(w));
                        put(byPlace, place * WORDS + w, later + hill.changesAt(w, row, place, hill.sizeOf(w)));
                    }
                }
            }
            int fewest = fewestBehind(0, hill.all());
            return fewest >= FAR ? NONE : fewest;
        }

        private int fewestBehind(int place, int bits) {
            int fewest = FAR;
            for (int w = 0; w < WORDS; w++) {
                if (has(bits, w)) {
                    fewest = Math.min(fewest, got(byPlace, place * WORDS + w));
                }
            }
            return fewest;
        }

        int slipsUpTo(int n) {
            int bits = 0;
            for (int w = 0; w < hill.words; w++) {
                if (changesTo(hill, w, row, 0, size) <= n) {
                    bits |= bit(w);
                }
            }
            return bits;
        }

        int changesBetween(Hill place, int a, int b) {
            return changesTo(place, a, place.letters, b * WORD_ROOM, place.sizeOf(b));
        }

        /** The fewest LETTERS changed, left out, put in from a row to a WORD. */
        private int changesTo(Hill place, int word, int[] other, int from, int n) {
            for (int j = 0; j <= n; j++) {
                put(changes, j, j);
            }
            for (int i = 0; i < place.sizeOf(word); i++) {
                int aslant = got(changes, 0);
                put(changes, 0, i + 1);
                for (int j = 1; j <= n; j++) {
                    int above = got(changes, j);
                    int changed = aslant + (place.letterOf(word, i) == got(other, from + j - 1) ? 0 : 1);
                    put(changes, j, Math.min(changed, 1 + Math.min(above, got(changes, j - 1))));
                    aslant = above;
                }
            }
            return got(changes, n);
        }

        /** The couple of WORDS that are least APART, or how much; NONE without a couple. */
        int closest(Hill place, boolean couple) {
            int best = NONE;
            int least = NONE;
            for (int a = 0; a < place.words; a++) {
                for (int b = a + 1; b < place.words; b++) {
                    int apart = changesBetween(place, a, b);
                    if (least == NONE || apart < least) {
                        least = apart;
                        best = 10 * a + b;
                    }
                }
            }
            return couple ? best : least;
        }
    }

    /** Rows of WORDS, one behind the other, with rows to reckon in. */
    private static final class Yard {
        private static final int FAR = 1000;
        private static final int MOST_READ_TWICE = 24;

        private final int[] rows = new int[WORDS];
        private final int[] longerRows = new int[WORDS];
        private final int[] heads = new int[1 << WORDS];
        private final int[] lengths = new int[WORD_ROOM * WORDS * WORDS];

        int rowsOf(Hill hill, int n) {
            if (n == 0) {
                return 1;
            }
            Arrays.fill(rows, 1);
            for (int length = 2; length <= n; length++) {
                for (int w = 0; w < hill.words; w++) {
                    put(longerRows, w, sumOf(hill.behind(w)));
                }
                copyRow(longerRows, rows);
            }
            return sumOf(hill.all());
        }

        private int sumOf(int bits) {
            int sum = 0;
            for (int w = 0; w < WORDS; w++) {
                if (has(bits, w)) {
                    sum += got(rows, w);
                }
            }
            return sum;
        }

        /**
         * Two READINGS grow side by side: one is ahead by the last LETTERS (left) of its last WORD. The
         * shortest such rows differ in their first WORDS, as any may come first.
         */
        int shortestReadTwice(Hill hill) {
            Arrays.fill(lengths, FAR);
            for (int ahead = 0; ahead < hill.words; ahead++) {
                for (int late = 0; late < hill.words; late++) {
                    if (hill.isWithin(late, ahead)) {
                        shorten(hill.sizeOf(ahead) - hill.sizeOf(late), ahead, late, hill.sizeOf(ahead));
                    }
                }
            }
            for (int length = 1; length <= MOST_READ_TWICE; length++) {
                if (endsAt(hill, length)) {
                    return length;
                }
            }
            return NONE;
        }

        private boolean endsAt(Hill hill, int length) {
            // The late one may come nearer without a longer row, so most LETTERS left come first.
            for (int left = WORD_ROOM - 1; left >= 1; left--) {
                for (int ahead = 0; ahead < hill.words; ahead++) {
                    for (int late = 0; late < hill.words; late++) {
                        if (got(lengths, pair(left, ahead, late)) == length && goOn(hill, left, ahead, late, length)) {
                            return true;
                        }
                    }
                }
            }
            return false;
        }

        /** Puts each WORD behind the late one; true if both READINGS then end together. */
        private boolean goOn(Hill hill, int left, int ahead, int late, int length) {
            int from = ahead * WORD_ROOM + hill.sizeOf(ahead) - left;
            for (int w = 0; w < hill.words; w++) {
                int size = hill.sizeOf(w);
                boolean may = has(hill.behind(late), w);
                if (may && hill.changesAt(w, hill.letters, from, Math.min(size, left)) == 0) {
                    if (size == left) {
                        return true;
                    }
                    if (size < left) {
                        shorten(left - size, ahead, w, length);
                    } else {
                        shorten(size - left, w, ahead, length + size - left);
                    }
                }
            }
            return false;
        }

        private void shorten(int left, int ahead, int late, int length) {
            int at = pair(left, ahead, late);
            put(lengths, at, Math.min(got(lengths, at), length));
        }

        private static int pair(int left, int ahead, int late) {
            return (left * WORDS + ahead) * WORDS + late;
        }

        int longestChain(Hill hill) {
            int longest = 0;
            for (int set = 1; set <= hill.all(); set++) {
                put(heads, set, headsOf(hill, set));
                if (got(heads, set) != 0) {
                    longest = Math.max(longest, Integer.bitCount(set));
                }
            }
            return longest;
        }

        /** WORDS (bits) of a set that may come first in a row of just this set. */
        private int headsOf(Hill hill, int set) {
            int bits = 0;
            for (int w = 0; w < hill.words; w++) {
                int rest = set & ~bit(w);
                if (has(set, w) && (rest == 0 || (hill.behind(w) & got(heads, rest)) != 0)) {
                    bits |= bit(w);
                }
            }
            return bits;
        }

        /** Behind longestChain(), which fills the heads of all sets. */
        int wordOfFirstChain(Hill hill, int longest, int k) {
            int used = 0;
            int word = NONE;
            for (int i = 0; i <= k && i < longest; i++) {
                int may = hill.behind(word) & ~used;
                word = lowest(may & headsWithout(hill, used, longest - i));
                used |= bit(word);
            }
            return k < longest ? word : NONE;
        }

        private int headsWithout(Hill hill, int used, int size) {
            int bits = 0;
            for (int set = 1; set <= hill.all(); set++) {
                if ((set & used) == 0 && Integer.bitCount(set) == size) {
                    bits |= got(heads, set);
                }
            }
            return bits;
        }
    }
}
