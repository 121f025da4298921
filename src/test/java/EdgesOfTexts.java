import java.util.Arrays;

/** Terms 1: what a text may tell, at the least, at the most, one below and one above; which FAULT it has, and where. */
final class EdgesOfTexts {
    private static final int NONE = Due.NONE;
    private static final int HILL = Say.HILL;
    private static final int CENTURY = Say.CENTURY;
    private static final int LINES = Say.LINES;
    private static final int LOG = Say.LOG;

    private static final String[] TEN = {"a", "b", "c", "d", "e", "f", "aa", "ab", "ac", "ad"};
    private static final String[][] STATEMENTS = {
        {"word ab 7 ;", "follows 0 0 ;", "asks 0 0 ;", "stones 3 ;"},
        {"frost 0 a ;", "forge 1 b ;", "moss 2 ;", "chip 3 ;", "split 0 ;"},
        {"line abc ;"},
        {"depth 3 4 ;"}};

    private EdgesOfTexts() {
    }

    static void run(Due due) {
        due.of("Terms");
        stones(due);
        words(due);
        letters(due);
        often(due);
        follows(due);
        questions(due);
        deeds(due);
        lines(due);
        facts(due);
        tape(due);
        blanks(due);
        bytes(due);
        numbers(due);
        statements(due);
        unfinished(due);
        wrongKinds(due);
        strikes(due);
        faultOne(due);
        faultTwo(due);
        faultThree(due);
        faultsOfTheEnd(due);
        sorts(due);
    }

    static String words(int n) {
        StringBuilder s = new StringBuilder();
        for (int w = 0; w < n; w++) {
            s.append("word ").append(TEN[w]).append(' ').append(w).append(';');
        }
        return s.toString();
    }

    /** Ten WORDS of two LETTERS, of which some may be told in another way. */
    static String tenOfTwo(String first, String last) {
        return "word " + first + " 1;word ab 1;word ac 1;word ad 1;word ae 1;word af 1;word ba 1;word bb 1;word bc 1;word " + last + " 1;";
    }

    private static void stones(Due due) {
        due.by("A HILL has STONES, 1 .. 4 (2 at first), from 0 on");
        due.is("stones at first", due.hill("").hill(0, 0), 2);
        due.is("stones at first, with words", due.hill(words(10)).hill(0, 0), 2);
        due.fault(HILL, "stones 0;", 2, 7);
        due.fault(HILL, "stones 00;", 2, 7);
        due.fault(HILL, "stones 5;", 2, 7);
        due.fault(HILL, "stones 14;", 2, 7);
        due.fault(HILL, "stones 99;", 2, 7);
        for (int n = 1; n <= 4; n++) {
            FrostReplies x = due.hillAnd("stones " + n + ";", CENTURY, "");
            due.is("stones " + n, x.hill(0, 0), n);
            due.is("the first of " + n, x.state(0, 0, 0, 10), 0);
            due.is("the last of " + n, x.state(0, 0, 0, 10 + n - 1), 0);
            due.is("behind the last of " + n, x.state(0, 0, 0, 10 + n), -2);
        }
    }

    private static void words(Due due) {
        due.by("WORDS, at most 10, from 0 on");
        for (int n = 0; n <= 10; n++) {
            FrostReplies x = due.hill(words(n));
            due.is("words of " + n, x.hill(0, 1), n);
            for (int w = 0; w < 10; w++) {
                due.is("letters of word " + w + " of " + n, x.hill(0, 10 + w), w < n ? TEN[w].length() : NONE);
                due.is("often of word " + w + " of " + n, x.hill(0, 20 + w), w < n ? w : NONE);
            }
        }
        due.fault(HILL, words(10) + "word ae 1;", 3, words(10).length());
    }

    private static void letters(Due due) {
        due.by("LETTERS, 1 .. 6 of them, each a .. f (0 .. 5)");
        due.fault(HILL, "word 1;", 1, 5);
        due.fault(HILL, "word ;", 1, 5);
        for (int n = 1; n <= 6; n++) {
            FrostReplies x = due.hill("word " + "fedcba".substring(0, n) + " 1;");
            due.is("how many of " + n, x.hill(0, 10), n);
            for (int k = 0; k < 6; k++) {
                due.is("letter " + k + " of " + n, x.hill(0, 100 + k), k < n ? 5 - k : NONE);
            }
        }
        due.fault(HILL, "word aaaaaaa 1;", 2, 5);
        due.fault(HILL, "word abcdefabcdef 1;", 2, 5);
        due.fault(HILL, "word " + Say.repeat("a", 590) + " 1;", 2, 5);
        for (char c = 'a'; c <= 'z'; c++) {
            boolean may = c <= 'f';
            due.fault(HILL, "word " + c + " 1;", may ? 0 : 2, may ? NONE : 5);
            due.fault(HILL, "word aaaaa" + c + " 1;", may ? 0 : 2, may ? NONE : 5);
            due.fault(LINES, "line aaaaaaaaaaa" + c + ";", may ? 0 : 2, may ? NONE : 5);
            due.fault(CENTURY, "frost 0 " + c + ";", may ? 0 : 2, may ? NONE : 8);
            due.fault(CENTURY, "forge 3 " + c + ";", may ? 0 : 2, may ? NONE : 8);
        }
    }

    private static void often(Due due) {
        due.by("OFTEN, 0 .. 99");
        for (int n = 0; n <= 99; n++) {
            due.is("often " + n, due.hill("word a " + n + ";").hill(0, 20), n);
        }
        due.is("often 00", due.hill("word a 00;").hill(0, 20), 0);
        due.is("often 09", due.hill("word a 09;").hill(0, 20), 9);
        due.fault(HILL, "word a 100;", 1, 7);
        due.fault(HILL, "word a -1;", 1, 7);
    }

    private static void follows(Due due) {
        due.by("FOLLOWS: couples of WORDS of which the second may come behind the first (if none is told, any may come behind any; any may come first)");
        for (int n = 1; n <= 10; n++) {
            FrostReplies any = due.hill(words(n));
            due.is("any behind the first of " + n, any.hill(0, 30), (1 << n) - 1);
            due.is("any behind the last of " + n, any.hill(0, 30 + n - 1), (1 << n) - 1);
        }
        FrostReplies x = due.hillAnd("word a 1;word b 1;follows 0 1;", LINES, "line a;line b;line ab;line ba;line aa;");
        due.is("the one told", x.hill(0, 30), 2);
        due.is("none told of 1", x.hill(0, 31), 0);
        due.is("a first", x.reading(0, 0, 0, NONE), 1);
        due.is("b first", x.reading(0, 0, 1, NONE), 1);
        due.is("b behind a", x.reading(0, 0, 2, NONE), 1);
        due.is("a behind b", x.reading(0, 0, 3, NONE), 0);
        due.is("a behind a", x.reading(0, 0, 4, NONE), 0);
        due.is("any first", x.sentences(0, 1), 2);
        due.is("one couple", x.sentences(0, 2), 1);
        due.is("any first on a stone", x.drawn(0, 0, 0, 50), 3);
        FrostReplies ends = due.hill(words(10) + "follows 0 9;follows 9 0;follows 9 9;");
        due.is("9 behind 0", ends.hill(0, 30), 512);
        due.is("0 and 9 behind 9", ends.hill(0, 39), 513);
        due.is("none behind 8", ends.hill(0, 38), 0);
        due.fault(HILL, words(10) + "follows 10 0;", 2, words(10).length() + 8);
        due.fault(HILL, words(10) + "follows 0 10;", 2, words(10).length() + 10);
    }

    private static void questions(Due due) {
        due.by("QUESTIONS, 0 .. 5, with WORDS that answer them.");
        for (int q = 0; q <= 5; q++) {
            FrostReplies x = due.hill(words(10) + "asks " + q + " 0;asks " + q + " 9;");
            for (int other = 0; other <= 5; other++) {
                due.is("answers of " + other, x.hill(0, 40 + other), other == q ? 513 : 0);
            }
            due.is("question 6", x.hill(0, 46), NONE);
        }
        due.fault(HILL, words(10) + "asks 6 0;", 2, words(10).length() + 5);
        due.fault(HILL, words(10) + "asks 0 10;", 2, words(10).length() + 7);
    }

    private static void deeds(Due due) {
        due.by("A CENTURY has DEEDS, at most 40, from 0 on.");
        for (int n : new int[] {0, 1, 2, 39, 40}) {
            FrostReplies x = due.told(CENTURY, Say.repeat("chip 0;", n));
            due.is("deeds of " + n, x.deed(0, NONE, 0), n);
            due.is("the first of " + n, x.deed(0, 0, 0), n == 0 ? -2 : 3);
            due.is("ahead of the last of " + n, x.deed(0, n - 1, 0), n == 0 ? 0 : 3);
            due.is("behind the last of " + n, x.deed(0, n, 0), -2);
        }
        for (String deed : new String[] {"frost 0 a;", "forge 0 a;", "moss 0;", "chip 0;", "split 0;"}) {
            due.fine(CENTURY, Say.repeat(deed, 40));
            due.fault(CENTURY, Say.repeat(deed, 41), 3, 40 * deed.length());
            due.fine(CENTURY, Say.repeat("moss 1;", 39) + deed);
            due.fault(CENTURY, Say.repeat("moss 1;", 40) + deed, 3, 280);
        }
    }

    private static void lines(Due due) {
        due.by("LINES are at most 6 rows of 1 .. 12 LETTERS, from 0 on.");
        for (int n = 0; n <= 6; n++) {
            FrostReplies x = due.told(LINES, Say.repeat("line b;", n));
            due.is("lines of " + n, x.line(0, NONE, 0), n);
            for (int k = 0; k <= 6; k++) {
                due.is("line " + k + " of " + n, x.line(0, k, 0), k < n ? 1 : -2);
            }
        }
        due.fault(LINES, Say.repeat("line b;", 7), 3, 42);
        due.fault(LINES, "line;", 1, 4);
        due.fault(LINES, "line ;", 1, 5);
        for (int n = 1; n <= 12; n++) {
            FrostReplies x = due.told(LINES, "line a;line " + "abcdeffedcba".substring(0, n) + ";");
            due.is("letters of " + n, x.line(0, 1, NONE), n);
            due.is("the last of " + n, x.line(0, 1, n - 1), n <= 6 ? n - 1 : 12 - n);
            due.is("behind the last of " + n, x.line(0, 1, n), -2);
        }
        due.fault(LINES, "line abcdefabcdefa;", 2, 5);
        due.fault(LINES, "line " + Say.repeat("f", 594) + ";", 2, 5);
    }

    private static void facts(Due due) {
        due.by("A LOG has FACTS, at most 8, from 0 on: of a row of frosts, one behind the other, the one of a PLACE, 0 .. 11, had a DEPTH, 0 .. 9.");
        for (int n = 0; n <= 8; n++) {
            FrostReplies x = due.told(LOG, Say.repeat("depth 1 2;", n));
            due.is("facts of " + n, x.fact(0, NONE, 0), n);
            for (int k = 0; k <= 8; k++) {
                due.is("place of fact " + k + " of " + n, x.fact(0, k, 0), k < n ? 1 : -2);
                due.is("depth of fact " + k + " of " + n, x.fact(0, k, 1), k < n ? 2 : -2);
            }
        }
        due.fault(LOG, Say.repeat("depth 1 2;", 9), 3, 80);
        for (int place = 0; place <= 11; place++) {
            due.is("place " + place, due.told(LOG, "depth " + place + " 0;").fact(0, 0, 0), place);
        }
        due.fault(LOG, "depth 12 0;", 2, 6);
        due.fault(LOG, "depth 99 0;", 2, 6);
        for (int depth = 0; depth <= 9; depth++) {
            due.is("depth " + depth, due.told(LOG, "depth 0 " + depth + ";").fact(0, 0, 1), depth);
        }
        due.fault(LOG, "depth 0 10;", 2, 8);
        due.fault(LOG, "depth 0 99;", 2, 8);
    }

    private static void tape(Due due) {
        due.by("THE TAPE has at most 600 bytes.");
        due.fine(LINES, Say.repeat(" ", 600));
        due.fault(LINES, Say.repeat(" ", 599) + "x", 1, 599);
        due.fault(LINES, Say.repeat(" ", 594) + "line a", 1, 600);
        FrostReplies x = due.told(LINES, "line a;" + Say.repeat("\n", 584) + "line bcd;");
        due.is("both ends of 600 bytes", x.line(0, NONE, 0), 2);
        due.is("the last letter", x.line(0, 1, 2), 3);
        due.fine(HILL, words(10) + Say.repeat("stones 1;", (600 - words(10).length()) / 9));
        due.fine(CENTURY, Say.repeat("forge 0 a;    \n", 40));
    }

    private static void blanks(Due due) {
        due.by("TOKENS, as long as they go, blanks (10, 32) between");
        due.fine(HILL, "word a1;follows0 0;asks0 0;stones4;");
        due.fine(HILL, "word\na\n1\n;\nfollows 0\n0;\n\n");
        due.fine(HILL, "   word   a   1   ;   stones   4   ;   ");
        due.fine(CENTURY, "frost0a;forge1b;moss2;chip3;split0;");
        due.fine(LOG, "depth11 9;");
        due.is("12 as long as it goes", due.hill("word a12;").hill(0, 20), 12);
        due.fault(HILL, "worda 1;", 1, 0);
        due.fault(HILL, "wor d a 1;", 1, 0);
        due.fault(LOG, "depth 119;", 1, 6);
        due.fault(HILL, "word a1b;", 1, 7);
        due.fault(HILL, "word a 1 2;", 1, 9);
        due.fault(LINES, "line a b;", 1, 7);
        due.fault(LINES, "line a\nb;", 1, 7);
        for (int sort = 0; sort < 4; sort++) {
            due.fine(sort, "");
            due.fine(sort, " ");
            due.fine(sort, "\n");
        }
    }

    /** Each byte once where a blank may be, ahead of all, behind all and in a ROW. */
    private static void bytes(Due due) {
        due.by("rows of letters a .. z; NUMBERS, 1 or 2 digits; ; one byte.");
        for (int b = 0; b < 256; b++) {
            char c = (char) b;
            boolean blank = b == 10 || b == 32;
            boolean letter = b >= 'a' && b <= 'z';
            boolean digit = b >= '0' && b <= '9';
            if (blank) {
                due.fine(HILL, c + "stones" + c + "4" + c + ";" + c);
                due.fault(LINES, "line a" + c + "b;", 1, 7);
                continue;
            }
            due.fault(LINES, c + "line a;", 1, 0);
            due.fault(LINES, "line a;" + c, 1, 7);
            if (letter) {
                boolean may = c <= 'f';
                due.fault(HILL, "stones" + c + "4;", 1, 0);
                due.fault(LINES, "line a" + c + "b;", may ? 0 : 2, may ? NONE : 5);
            } else if (digit) {
                due.fault(HILL, "stones" + c + "4;", c == '0' ? 0 : 2, c == '0' ? NONE : 6);
                due.fault(LINES, "line a" + c + "b;", 1, 6);
            } else {
                due.fault(HILL, "stones" + c + "4;", 1, 6);
                due.fault(LINES, "line a" + c + "b;", 1, c == ';' ? 7 : 6);
            }
        }
    }

    private static void numbers(Due due) {
        due.by("(a longer row of digits is no token)");
        due.fine(HILL, "stones 1;");
        due.fine(HILL, "stones 01;");
        due.fault(HILL, "stones 001;", 1, 7);
        due.fault(HILL, "stones 0000000000000000000000000000000001;", 1, 7);
        due.fault(HILL, "stones 4294967298;", 1, 7);
        due.fault(HILL, "word a 100;", 1, 7);
        due.fault(HILL, "word 123 1;", 1, 5);
        due.fault(LOG, "depth 000 1;", 1, 6);
        due.fault(LOG, "depth 0 001;", 1, 8);
        due.fault(CENTURY, "split 000;", 1, 6);
        due.fault(CENTURY, "split 0 ;000", 1, 9);
    }

    private static void statements(Due due) {
        String hill = "A HILL's text: {('word' ROW NUMBER | ('follows' | 'asks') NUMBER NUMBER | 'stones' NUMBER) ';'}";
        String century = "A CENTURY's text: {(('frost' | 'forge') NUMBER ROW | ('moss' | 'chip' | 'split') NUMBER) ';'}";
        String[] words = {hill, century, "LINES' text: {'line' ROW ';'}.", "A LOG's text: {'depth' NUMBER NUMBER ';'}"};
        for (int sort = 0; sort < 4; sort++) {
            due.by(words[sort]);
            due.fine(sort, "");
            due.fine(sort, String.join("", STATEMENTS[sort]));
            due.fine(sort, String.join("", STATEMENTS[sort]).replace(" ;", ";"));
            for (int other = 0; other < 4; other++) {
                for (String statement : STATEMENTS[other]) {
                    if (other != sort) {
                        due.fault(sort, statement, 1, 0);
                        due.fault(sort, STATEMENTS[sort][0] + statement, 1, STATEMENTS[sort][0].length());
                    }
                }
            }
        }
        keysChanged(due);
        due.by("(word: LETTERS, OFTEN; follows: a WORD, 0 .. 9, one that may come behind it; asks: a QUESTION, 0 .. 5, a WORD)");
        FrostReplies x = due.hill("word abc 12;word b 3;asks 1 0;follows 1 0;");
        due.is("letters", x.hill(0, 10), 3);
        due.is("often", x.hill(0, 20), 12);
        due.is("behind 1", x.hill(0, 31), 1);
        due.is("behind 0", x.hill(0, 30), 0);
        due.is("answers of 1", x.hill(0, 41), 1);
        due.by("(a STONE, 0 .. 3; one LETTER)");
        for (String deed : new String[] {"moss ", "chip ", "split "}) {
            due.fine(CENTURY, deed + "0;" + deed + "3;" + deed + "03;");
            due.fault(CENTURY, deed + "4;", 2, deed.length());
            due.fault(CENTURY, deed + "99;", 2, deed.length());
        }
        for (String deed : new String[] {"frost ", "forge "}) {
            due.fine(CENTURY, deed + "0 a;" + deed + "3 f;");
            due.fault(CENTURY, deed + "4 a;", 2, 6);
            due.fault(CENTURY, deed + "0;", 1, 7);
            due.fault(CENTURY, deed + "0 aa;", 2, 8);
        }
        due.by("(PLACE, DEPTH)");
        due.is("place", due.told(LOG, "depth 3 4;").fact(0, 0, 0), 3);
        due.is("depth", due.told(LOG, "depth 3 4;").fact(0, 0, 1), 4);
        due.by("ROW: any row of letters a .. z.");
        due.fault(HILL, "word word 1;", 2, 5);
        due.fault(LINES, "line line;", 2, 5);
        due.fault(CENTURY, "frost 0 frost;", 2, 8);
        due.fault(LINES, "line Abc;", 1, 5);
    }

    /** Each key with one letter changed, left out, put in: no text goes on with it. */
    private static void keysChanged(Due due) {
        for (int sort = 0; sort < 4; sort++) {
            for (String statement : STATEMENTS[sort]) {
                int end = statement.indexOf(' ');
                for (int at = 0; at <= end; at++) {
                    String ahead = statement.substring(0, at);
                    due.fault(sort, ahead + "z" + statement.substring(at), 1, 0);
                    if (at < end) {
                        due.fault(sort, ahead + "z" + statement.substring(at + 1), 1, 0);
                        due.fault(sort, ahead + statement.substring(at + 1), 1, 0);
                        due.fault(sort, ahead + statement.substring(at, at + 1).toUpperCase() + statement.substring(at + 1), 1, 0);
                    }
                }
            }
        }
    }

    /** A statement cut behind any of its tokens: no text goes on with the end. */
    private static void unfinished(Due due) {
        due.by("1 the first byte or token with which no text goes on");
        for (int sort = 0; sort < 4; sort++) {
            for (String statement : STATEMENTS[sort]) {
                for (int at = statement.indexOf(' '); at >= 0; at = statement.indexOf(' ', at + 1)) {
                    String part = statement.substring(0, at);
                    due.fault(sort, part, 1, part.length());
                    due.fault(sort, part + " \n", 1, part.length() + 2);
                    due.fault(sort, statement + part, 1, statement.length() + part.length());
                }
            }
        }
    }

    private static void wrongKinds(Due due) {
        due.by("FAULTS of all, with places (a token's first byte; the end's)");
        for (int sort = 0; sort < 4; sort++) {
            for (String statement : STATEMENTS[sort]) {
                String[] tokens = statement.split(" ");
                for (int t = 1; t < tokens.length; t++) {
                    for (String other : new String[] {"a", "1", ";", "word", "#"}) {
                        if (kindOf(other) != kindOf(tokens[t])) {
                            String[] changed = tokens.clone();
                            changed[t] = other;
                            int place = String.join(" ", Arrays.copyOf(tokens, t)).length() + 1;
                            due.fault(sort, String.join(" ", changed), 1, place);
                            due.fault(sort, "  " + String.join(" ", changed), 1, place + 2);
                        }
                    }
                }
            }
        }
    }

    private static int kindOf(String token) {
        char c = token.charAt(0);
        return c >= 'a' && c <= 'z' ? 1 : c >= '0' && c <= '9' ? 2 : c == ';' ? 3 : 4;
    }

    private static void strikes(Due due) {
        due.by("Later ones strike (stones), but all others, which are further ones.");
        due.is("the later stones", due.hill("stones 4;stones 1;").hill(0, 0), 1);
        due.is("the latest stones", due.hill("stones 1;stones 4;word a 1;stones 3;").hill(0, 0), 3);
        FrostReplies x = due.hill("word a 1;word b 2;word c 3;follows 0 1;follows 0 2;follows 0 1;asks 3 0;asks 3 2;asks 3 0;");
        due.is("further words", x.hill(0, 1), 3);
        due.is("further follows", x.hill(0, 30), 6);
        due.is("further answers", x.hill(0, 43), 5);
        due.is("further deeds", due.told(CENTURY, "chip 0;chip 0;chip 0;").deed(0, NONE, 0), 3);
        due.is("further lines", due.told(LINES, "line a;line a;").line(0, NONE, 0), 2);
        due.is("further facts", due.told(LOG, "depth 1 2;depth 1 2;depth 1 3;").fact(0, NONE, 0), 3);
        due.fault(HILL, "stones 0;stones 1;", 2, 7);
        due.fault(HILL, "stones 1;stones 0;", 2, 16);
    }

    private static void faultOne(Due due) {
        due.by("1 the first byte or token with which no text goes on (a longer row of digits is no token).");
        due.fault(HILL, "word a 1;#;#", 1, 9);
        due.fault(HILL, "# word", 1, 0);
        due.fault(HILL, "stones 9;word g 1;follows 9 9;!", 1, 30);
        due.fault(HILL, words(10) + "word ae 1;stones", 1, words(10).length() + 16);
        due.fault(HILL, "word a 1;word a 1;;", 1, 18);
        due.fault(HILL, "asks 0 0;x", 1, 9);
        due.fault(CENTURY, Say.repeat("chip 0;", 41) + "chop 0;", 1, 287);
        due.fault(LINES, Say.repeat("line a;", 7) + "line", 1, 53);
        due.fault(LOG, Say.repeat("depth 0 0;", 9) + "0", 1, 90);
    }

    private static void faultTwo(Due due) {
        due.by("If there is none, the first by place, of one place the least: 2 a NUMBER or a ROW that can't be (as above; a ROW with other LETTERS, too long, in frost, forge of more than one");
        due.fault(HILL, "stones 9;word g 1;", 2, 7);
        due.fault(HILL, "word g 1;stones 9;", 2, 5);
        due.fault(HILL, "follows 10 11;", 2, 8);
        due.fault(HILL, "asks 6 10;", 2, 5);
        due.fault(HILL, "  word\n abcdefg 1;", 2, 8);
        due.fault(CENTURY, "frost 4 g;", 2, 6);
        due.fault(CENTURY, "frost 3 ga;", 2, 8);
        due.fault(CENTURY, "forge 3 ab;", 2, 8);
        due.fault(LINES, "line a;line abcdefabcdefg;", 2, 12);
        due.fault(LOG, "depth 12 10;", 2, 6);
        due.fault(LOG, "depth 11 9;depth 11 10;", 2, 20);
        due.by("a line with such a one tells its WORD, DEED, LINE, FACT all the same)");
        // the first one is ahead of the 11th, the 41st, the 7th, the 9th by place
        due.fault(HILL, "word g 1;" + words(10), 2, 5);
        due.fault(CENTURY, "chip 4;" + Say.repeat("chip 0;", 40), 2, 5);
        due.fault(LINES, "line g;" + Say.repeat("line a;", 6), 2, 5);
        due.fault(LOG, "depth 12 0;" + Say.repeat("depth 0 0;", 8), 2, 6);
    }

    private static void faultThree(Due due) {
        due.by("3 an 11th WORD, a 41st DEED, a 7th LINE, a 9th FACT, at its first token.");
        String ten = words(10);
        due.fine(HILL, ten);
        due.fault(HILL, ten + "  \nword ae 1;", 3, ten.length() + 3);
        due.fault(HILL, ten + "word abcdefa 1;", 3, ten.length());
        due.fault(HILL, ten + "word ae 1;stones 0;", 3, ten.length());
        due.fault(HILL, ten + "stones 0;word ae 1;", 2, ten.length() + 7);
        due.fault(HILL, ten + "word a 1;follows 0 9;", 3, ten.length());
        due.fault(HILL, words(9) + "follows 0 9;" + "word ad 1;" + "word ae 1;", 3, words(9).length() + 22);
        due.fine(CENTURY, Say.repeat("chip 0;", 40));
        due.fault(CENTURY, Say.repeat("chip 0;", 40) + " split 9;", 3, 281);
        due.fine(LINES, Say.repeat("line a;", 6));
        due.fault(LINES, Say.repeat("line a;", 6) + " line g;", 3, 43);
        due.fine(LOG, Say.repeat("depth 0 0;", 8));
        due.fault(LOG, Say.repeat("depth 0 0;", 8) + " depth 12 0;", 3, 81);
        due.fault(LOG, Say.repeat("depth 0 0;", 10), 3, 80);
    }

    private static void faultsOfTheEnd(Due due) {
        due.by("If there is none of these, at the end's place, of a HILL: 4 a WORD that was told of and is not there; 5 two WORDS of the same LETTERS.");
        for (int n = 0; n <= 9; n++) {
            String text = words(n);
            for (String told : new String[] {"follows 0 " + n, "follows " + n + " 0", "asks 0 " + n}) {
                due.fault(HILL, text + told + ";", 4, text.length() + told.length() + 1);
                due.fault(HILL, told + ";\n" + text + "  ", 4, text.length() + told.length() + 4);
                due.fine(HILL, told + ";" + words(n + 1));
            }
        }
        due.fault(HILL, "word ab 1;word ab 2;", 5, 20);
        due.fault(HILL, "word ab 1;word b 1;word ab 1; ", 5, 30);
        due.fault(HILL, "word abcdef 1;word abcdef 1;", 5, 28);
        due.fault(HILL, words(9) + "word ac 1;", 5, words(9).length() + 10);
        due.fine(HILL, "word ab 1;word a 1;word b 1;word ba 1;word aba 1;word abb 1;");
        due.fault(HILL, "word a 1;word a 1;asks 5 2;", 4, 27);
        due.fault(HILL, "asks 5 2;word a 1;word a 1;", 4, 27);
        due.fault(HILL, "word a 1;word a 1;asks 6 2;", 2, 23);
        due.fine(LINES, "line ab;line ab;");
        due.fine(LOG, "depth 1 1;depth 1 1;");
        due.fine(CENTURY, "chip 3;");
    }

    private static void sorts(Due due) {
        due.by("HILLS, at most 2 (sort 0), CENTURIES, at most 2 (1), LINES, at most 2 texts of them (2), LOGS, at most 2 (3), from 0 on.");
        for (int sort = 0; sort < 4; sort++) {
            FrostReplies x = new FrostReplies();
            String statement = STATEMENTS[sort][sort == 0 ? 3 : 0];
            due.is("none of " + sort, x.count(sort), 0);
            due.is("first of " + sort, Say.tell(x, sort, NONE, statement), 0);
            due.is("one of " + sort, x.count(sort), 1);
            due.is("second of " + sort, Say.tell(x, sort, NONE, statement), 1);
            due.is("two of " + sort, x.count(sort), 2);
            due.is("third of " + sort, Say.tell(x, sort, NONE, statement), -2);
            due.is("still two of " + sort, x.count(sort), 2);
            for (int other = 0; other < 4; other++) {
                due.is("of " + other, x.count(other), other == sort ? 2 : 0);
            }
        }
    }
}
