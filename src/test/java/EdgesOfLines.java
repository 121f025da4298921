/** What Terms 3 and 5 say of a LINE; promises 10 to 15, 25, 26. */
final class EdgesOfLines {
    private static final int NONE = Due.NONE;
    private static final int LINES = Say.LINES;

    private EdgesOfLines() {
    }

    static void run(Due due) {
        due.of("Terms");
        said(due);
        likely(due);
        odds(due);
        sure(due);
        readings(due);
        firstReading(due);
        slips(due);
        next(due);
        keenest(due);
        mended(due);
        echoes(due);
        lineCalls(due);
        saidCalls(due);
        oddsCalls(due);
        sureCalls(due);
        readingCalls(due);
        slipsCalls(due);
        nextCalls(due);
        echoCalls(due);
    }

    private static FrostReplies lines(Due due, String hill, String... lines) {
        StringBuilder text = new StringBuilder();
        for (String line : lines) {
            text.append("line ").append(line).append(';');
        }
        return due.hillAnd(hill, LINES, text.toString());
    }

    private static void saidOf(Due due, String hill, String line, int want) {
        due.is("said of " + line + " on " + hill, lines(due, hill, line).said(0, 0, 0, 0), want);
    }

    private static void said(Due due) {
        due.by("(Of a HILL as told.) Of a LINE (none TOLD ahead): SAID: WORDS (bits) that begin with its LETTERS.");
        String hill = "word a 1;word ab 1;word abc 0;word b 1;word abcdef 1;";
        saidOf(due, hill, "a", 23);
        saidOf(due, hill, "ab", 22);
        saidOf(due, hill, "abc", 20);
        saidOf(due, hill, "abcdef", 16);
        saidOf(due, hill, "abcdefa", 0);
        saidOf(due, hill, "abcdefabcdef", 0);
        saidOf(due, hill, "b", 8);
        saidOf(due, hill, "ba", 0);
        saidOf(due, hill, "c", 0);
        saidOf(due, "", "a", 0);
        saidOf(due, EdgesOfTexts.words(10), "a", 1 + 64 + 128 + 256 + 512);
        saidOf(due, EdgesOfTexts.words(10), "ad", 512);
        // a LINE has none TOLD ahead, so no FOLLOWS are in its way
        saidOf(due, hill + "follows 3 3;", "a", 23);
    }

    private static void likelyOf(Due due, String hill, String line, int want) {
        due.is("likely of " + line + " on " + hill, lines(due, hill, line).said(0, 0, 0, 1), want);
    }

    private static void likely(Due due) {
        due.by("LIKELY: of these the one that is said most OFTEN, of several the least.");
        likelyOf(due, "word a 1;word ab 2;word ac 3;word b 99;", "a", 2);
        likelyOf(due, "word a 3;word ab 2;word ac 1;", "a", 0);
        likelyOf(due, "word a 2;word ab 3;word ac 3;", "a", 1);
        likelyOf(due, "word a 3;word ab 3;word ac 3;", "a", 0);
        likelyOf(due, "word b 9;word ab 0;word ac 0;", "a", 1);
        likelyOf(due, "word a 98;word ab 99;", "a", 1);
        likelyOf(due, "word a 1;", "b", NONE);
        likelyOf(due, "", "a", NONE);
        likelyOf(due, EdgesOfTexts.words(10), "a", 9);
    }

    private static void fraction(Due due, String what, long above, long below, long wantAbove, long wantBelow) {
        due.is(what + ", above", above, wantAbove);
        due.is(what + ", below", below, wantBelow);
    }

    private static void oddsOf(Due due, String hill, String line, int word, long above, long below) {
        FrostReplies x = lines(due, hill, line);
        fraction(due, "odds of " + word + " by " + line + " on " + hill, x.odds(0, 0, 0, word, false), x.odds(0, 0, 0, word, true), above, below);
    }

    private static void odds(Due due) {
        due.by("ODDS of a WORD: how likely it is by OFTEN of all that are SAID, a fraction in least terms.");
        String hill = "word a 6;word ab 4;word abc 0;word b 7;";
        oddsOf(due, hill, "a", 0, 3, 5);
        oddsOf(due, hill, "a", 1, 2, 5);
        oddsOf(due, hill, "a", 2, 0, 1);
        oddsOf(due, hill, "a", 3, 0, 1);
        oddsOf(due, hill, "ab", 1, 1, 1);
        oddsOf(due, hill, "ab", 0, 0, 1);
        oddsOf(due, hill, "abc", 2, NONE, NONE);
        oddsOf(due, hill, "c", 0, NONE, NONE);
        oddsOf(due, hill, "b", 3, 1, 1);
        oddsOf(due, "word a 99;word ab 98;", "a", 0, 99, 197);
        oddsOf(due, "word a 0;word ab 1;", "a", 0, 0, 1);
        oddsOf(due, "word a 99;word ab 99;word ac 99;", "a", 2, 1, 3);
    }

    private static void sureOf(Due due, String hill, String line, long above, long below) {
        FrostReplies x = lines(due, hill, line);
        fraction(due, "sure by " + line + " on " + hill, x.sure(0, 0, 0, false), x.sure(0, 0, 0, true), above, below);
    }

    private static void sure(Due due) {
        due.by("SURE: by OFTEN, how many more LETTERS it takes in the mean until one of these alone begins so, or the WORD is whole, a fraction in least terms.");
        sureOf(due, "word abcdef 1;", "a", 0, 1);
        sureOf(due, "word abcdef 1;", "abcdef", 0, 1);
        sureOf(due, "word abcdef 1;", "abcdefa", NONE, NONE);
        sureOf(due, "word abcdef 1;word abcdee 1;", "a", 5, 1);
        sureOf(due, "word abcdef 1;word abcdee 1;", "abcde", 1, 1);
        sureOf(due, "word abcdef 3;word abcde 1;", "a", 19, 4);
        sureOf(due, "word a 1;word ab 1;", "a", 1, 2);
        sureOf(due, "word a 1;word ab 0;", "a", 0, 1);
        sureOf(due, "word a 0;word ab 2;", "a", 1, 1);
        sureOf(due, "word ab 2;word ac 4;word acd 2;", "a", 5, 4);
        sureOf(due, "word ab 0;word ac 0;", "a", NONE, NONE);
        sureOf(due, "word ab 0;word b 9;", "a", NONE, NONE);
        sureOf(due, "", "a", NONE, NONE);
        sureOf(due, "word abc 99;word abd 99;word aef 99;", "a", 5, 3);
    }

    private static void readingsOf(Due due, String hill, String line, int want) {
        due.is("readings of " + line + " on " + hill, lines(due, hill, line).reading(0, 0, 0, NONE), want);
    }

    private static void readings(Due due) {
        due.by("READINGS: in how many ways the LINE is a row of WORDS, each of which may come behind the one ahead of it");
        readingsOf(due, "", "a", 0);
        readingsOf(due, "word a 0;", "a", 1);
        readingsOf(due, "word a 1;", "b", 0);
        readingsOf(due, "word a 1;", "ab", 0);
        readingsOf(due, "word a 1;", "ba", 0);
        readingsOf(due, "word a 1;", "aaaaaaaaaaaa", 1);
        readingsOf(due, "word a 1;word aa 1;", "aaaaaaaaaaaa", 233);
        readingsOf(due, "word abcdef 1;", "abcdefabcdef", 1);
        readingsOf(due, "word abcdef 1;", "abcdefabcde", 0);
        readingsOf(due, "word abcdef 1;", "abcde", 0);
        readingsOf(due, "word ab 1;word a 1;word b 1;", "ab", 2);
        readingsOf(due, "word a 1;word aa 1;follows 0 0;", "aa", 2);
        readingsOf(due, "word a 1;word aa 1;follows 0 1;", "aaa", 1);
        readingsOf(due, "word a 1;word aa 1;follows 0 1;", "aaaa", 0);
        readingsOf(due, "word a 1;word aa 1;follows 0 1;follows 1 0;", "aaaaaa", 2);
        readingsOf(due, "word a 1;word b 1;follows 1 0;", "ab", 0);
        readingsOf(due, "word a 1;word b 1;follows 1 0;", "ba", 1);
        String ten = EdgesOfTexts.tenOfTwo("aa", "bd");
        readingsOf(due, ten, "aaa", 0);
        readingsOf(due, ten, "bdaa", 1);
        readingsOf(due, ten, "aabdaabdaabd", 1);
        readingsOf(due, ten + "follows 9 0;", "bdaa", 1);
        readingsOf(due, ten + "follows 9 0;", "aabd", 0);
        readingsOf(due, EdgesOfTexts.tenOfTwo("aaa", "aa"), "aaaaa", 2);
        readingsOf(due, EdgesOfTexts.tenOfTwo("bbb", "bd"), "bbbbb", 2);
    }

    private static void firstReading(Due due) {
        due.by("the first row of them, by numbers.");
        firstOf(due, "word a 1;word aa 1;", "aaa", 0, 0, 0);
        firstOf(due, "word aa 1;word a 1;", "aaa", 0, 1);
        firstOf(due, "word aaa 1;word aa 1;word a 1;", "aaaa", 0, 2);
        firstOf(due, "word ab 1;word a 1;word b 1;", "ab", 0);
        firstOf(due, "word b 1;word a 1;word ab 1;", "ab", 1, 0);
        // 0 first would be least, but no row goes on behind it
        firstOf(due, "word a 1;word ab 1;word c 1;", "abc", 1, 2);
        firstOf(due, "word a 1;word aa 1;follows 1 0;", "aaa", 1, 0);
        firstOf(due, "word a 1;word aa 1;follows 0 0;follows 0 1;", "aaaa", 0, 0, 0, 0);
        firstOf(due, "word b 1;word a 1;", "aaaaaaaaaaaa", 1, 1, 1, 1, 1, 1, 1, 1, 1, 1, 1, 1);
        firstOf(due, EdgesOfTexts.words(10), "adab", 0, 3, 0, 1);
        firstOf(due, "word a 1;", "b");
        firstOf(due, "", "b");
    }

    private static void firstOf(Due due, String hill, String line, int... row) {
        FrostReplies x = lines(due, hill, line);
        for (int i = 0; i < row.length; i++) {
            due.is("word " + i + " of " + line + " on " + hill, x.reading(0, 0, 0, i), row[i]);
        }
        due.is("word behind the last of " + line, x.reading(0, 0, 0, row.length), NONE);
        due.is("word far behind of " + line, x.reading(0, 0, 0, 13), NONE);
    }

    private static void slips(Due due) {
        due.by("SLIPS of n, 0 .. 3: WORDS (bits) that are as the LINE by n changes or fewer (a LETTER changed, left out, put in).");
        slipsOf(due, "word abc 1;", "abc", 0);
        slipsOf(due, "word abd 1;", "abc", 1);
        slipsOf(due, "word ab 1;", "abc", 1);
        slipsOf(due, "word bc 1;", "abc", 1);
        slipsOf(due, "word ac 1;", "abc", 1);
        slipsOf(due, "word abcd 1;", "abc", 1);
        slipsOf(due, "word dabc 1;", "abc", 1);
        slipsOf(due, "word adbc 1;", "abc", 1);
        slipsOf(due, "word aef 1;", "abc", 2);
        slipsOf(due, "word ba 1;", "ab", 2);
        slipsOf(due, "word abcde 1;", "abc", 2);
        slipsOf(due, "word a 1;", "abc", 2);
        slipsOf(due, "word def 1;", "abc", 3);
        slipsOf(due, "word abcdef 1;", "abc", 3);
        slipsOf(due, "word f 1;", "abc", 3);
        slipsOf(due, "word bcd 1;", "abc", 2);
        slipsOf(due, "word defd 1;", "abc", 4);
        slipsOf(due, "word abcdef 1;", "ab", 4);
        slipsOf(due, "word abcdef 1;", "abcdefabc", 3);
        slipsOf(due, "word abcdef 1;", "abcdefabcd", 4);
        slipsOf(due, "word abcdef 1;", "abcdefabcdef", 6);
        due.is("none of no words", lines(due, "", "a").slips(0, 0, 0, 3), 0);
        due.is("some of many", lines(due, EdgesOfTexts.words(10), "ad").slips(0, 0, 0, 1), 1 + 8 + 64 + 128 + 256 + 512);
        due.is("all of many", lines(due, EdgesOfTexts.words(10), "ad").slips(0, 0, 0, 2), 1023);
    }

    /** One WORD, told as a SLIP from as many changes on. */
    private static void slipsOf(Due due, String hill, String line, int changes) {
        FrostReplies x = lines(due, hill, line);
        for (int n = 0; n <= 3; n++) {
            due.is("slips of " + n + " of " + line + " on " + hill, x.slips(0, 0, 0, n), n >= changes ? 1 : 0);
        }
    }

    private static void nextOf(Due due, String hill, String line, int what, int want) {
        due.is("next, " + what + " of " + line + " on " + hill, lines(due, hill, line).next(0, 0, 0, what), want);
    }

    private static void next(Due due) {
        due.by("(Of a HILL as told.) Of a LINE: NEXT: LETTERS (bits) that may come behind it, so that it is SAID still");
        String hill = "word a 0;word ab 0;word af 1;word afa 1;word b 1;word abcdef 1;";
        nextOf(due, hill, "a", 0, 34);
        nextOf(due, hill, "af", 0, 1);
        nextOf(due, hill, "afa", 0, 0);
        nextOf(due, hill, "b", 0, 0);
        nextOf(due, hill, "c", 0, 0);
        nextOf(due, hill, "abcde", 0, 32);
        nextOf(due, hill, "abcdef", 0, 0);
        nextOf(due, hill, "abcdefabcdef", 0, 0);
        nextOf(due, "word aa 1;word ab 1;word ac 1;word ad 1;word ae 1;word af 1;", "a", 0, 63);
        nextOf(due, "", "a", 0, 0);
    }

    private static void keenest(Due due) {
        due.by("KEENEST: the LETTER that comes next most OFTEN (of all that are SAID), of several the least.");
        nextOf(due, "word ab 1;word ac 2;", "a", 1, 2);
        nextOf(due, "word ac 2;word ab 2;", "a", 1, 1);
        nextOf(due, "word ab 3;word ac 2;word acd 2;", "a", 1, 2);
        nextOf(due, "word ab 4;word ac 2;word acd 2;", "a", 1, 1);
        nextOf(due, "word ab 1;word aa 1;", "a", 1, 0);
        nextOf(due, "word ab 1;word aa 2;", "a", 1, 0);
        nextOf(due, "word a 99;word af 1;", "a", 1, 5);
        nextOf(due, "word a 99;word af 2;word aa 1;", "a", 1, 5);
        nextOf(due, "word af 1;word ba 99;word aa 0;", "a", 1, 5);
        nextOf(due, "word ac 0;word ab 0;", "a", 1, 1);
        nextOf(due, "word a 1;", "a", 1, NONE);
        nextOf(due, "word a 1;word b 1;", "c", 1, NONE);
        nextOf(due, "word abcdef 1;", "abcdef", 1, NONE);
        nextOf(due, "word abcdef 1;", "abcde", 1, 5);
        nextOf(due, "", "a", 1, NONE);
        nextOf(due, "word aa 1;word ab 1;word ac 1;word ad 1;word ae 1;word af 2;", "a", 1, 5);
    }

    private static void mended(Due due) {
        due.by("MENDED: the fewest LETTERS to change (none left out, none put in) so that it has a READING.");
        nextOf(due, "word a 1;", "a", 2, 0);
        nextOf(due, "word a 1;", "bbbbbbbbbbbb", 2, 12);
        nextOf(due, "word a 1;word b 1;", "abcabcabcabc", 2, 4);
        nextOf(due, "word ab 1;", "a", 2, NONE);
        nextOf(due, "word ab 1;", "ba", 2, 2);
        nextOf(due, "word ab 1;", "aba", 2, NONE);
        nextOf(due, "word abcdef 1;", "abcde", 2, NONE);
        nextOf(due, "word abcdef 1;", "fedcbafedcba", 2, 12);
        nextOf(due, "word abcdef 1;", "abcdefabcdee", 2, 1);
        nextOf(due, "word abc 1;word de 1;", "abcdd", 2, 1);
        nextOf(due, "word abc 1;word de 1;", "dcabc", 2, 1);
        nextOf(due, "word aa 1;word b 1;follows 0 1;", "aaa", 2, 1);
        nextOf(due, "word aa 1;word b 1;follows 0 1;", "baa", 2, 2);
        nextOf(due, "word aa 1;word b 1;follows 0 1;", "aaaa", 2, NONE);
        nextOf(due, "word aa 1;word b 1;follows 0 1;", "f", 2, 1);
        nextOf(due, "", "a", 2, NONE);
        String ten = EdgesOfTexts.tenOfTwo("aa", "bd");
        nextOf(due, ten, "a", 2, NONE);
        nextOf(due, ten, "aa", 2, 0);
        nextOf(due, ten, "aaa", 2, NONE);
        nextOf(due, ten, "bdf", 2, NONE);
        nextOf(due, ten, "afbf", 2, 1);
        nextOf(due, ten, "ffcaf", 2, NONE);
        nextOf(due, ten, "cfcfcfcfcfcf", 2, 6);
        nextOf(due, EdgesOfTexts.tenOfTwo("aaa", "bd"), "aabba", 2, 1);
        nextOf(due, EdgesOfTexts.tenOfTwo("aa", "bbb"), "bbbbb", 2, 0);
    }

    private static void echoOf(Due due, String first, String second, int many, int where) {
        FrostReplies x = lines(due, "", first, second);
        due.is("echo of " + first + ", " + second, x.echo(0, 0, 1, false), many);
        due.is("where in " + first + ", " + second, x.echo(0, 0, 1, true), where);
    }

    private static void echoes(Due due) {
        due.by("ECHO of two LINES of one text: the longest row of LETTERS that is in both, one behind the other: how many; where it begins in the first one, of several the least.");
        echoOf(due, "a", "b", 0, NONE);
        echoOf(due, "a", "a", 1, 0);
        echoOf(due, "ba", "a", 1, 1);
        echoOf(due, "abcdefabcdef", "abcdefabcdef", 12, 0);
        echoOf(due, "abcdefabcdef", "fabcdefabcde", 11, 0);
        echoOf(due, "fabcdefabcde", "abcdefabcdef", 11, 1);
        echoOf(due, "abcdefabcdef", "efa", 3, 4);
        echoOf(due, "abcdefabcdef", "f", 1, 5);
        echoOf(due, "aaaaaaaaaaab", "b", 1, 11);
        echoOf(due, "abacab", "ab", 2, 0);
        echoOf(due, "acbcab", "abcb", 2, 1);
        echoOf(due, "cab", "abc", 2, 1);
        echoOf(due, "abfcd", "cdeab", 2, 0);
        echoOf(due, "aba", "aa", 1, 0);
        FrostReplies x = due.told(LINES, "line abc;line bc;line a;line a;line a;line cab;");
        due.is("of the last in the first", x.echo(0, 0, 5, true), 0);
        due.is("of the first in the last", x.echo(0, 5, 0, true), 1);
    }

    private static void lineCalls(Due due) {
        due.of("Promise 10: line");
        due.by("Of LINES, how many (k NONE, i 0), of LINE k, how many LETTERS (i NONE), or the i-th.");
        FrostReplies x = due.told(LINES, "line f;line abcdefabcdef;");
        due.is("how many", x.line(0, NONE, 0), 2);
        due.is("letters of 0", x.line(0, 0, NONE), 1);
        due.is("letters of 1", x.line(0, 1, NONE), 12);
        due.is("f", x.line(0, 0, 0), 5);
        for (int i = 0; i < 12; i++) {
            due.is("letter " + i, x.line(0, 1, i), i % 6);
        }
        due.further(x, LINES, "");
        due.is("how many of none", x.line(1, NONE, 0), 0);
        due.by("-2: there is none such (of any).");
        for (int i : new int[] {Due.MIN, -2, 12, 13, Due.MAX}) {
            due.is("letter " + i, x.line(0, 1, i), -2);
        }
        due.is("letter 1 of one", x.line(0, 0, 1), -2);
        for (int k : new int[] {Due.MIN, -2, 2, 6, Due.MAX}) {
            due.is("line " + k, x.line(0, k, 0), -2);
            due.is("letters of line " + k, x.line(0, k, NONE), -2);
        }
        for (int i : new int[] {Due.MIN, -2, -1, 1, 2, Due.MAX}) {
            due.is("k NONE, i " + i, x.line(0, NONE, i), -2);
        }
        due.is("line 0 of none", x.line(1, 0, 0), -2);
        due.is("line 0 of none, i NONE", x.line(1, 0, NONE), -2);
    }

    private static void saidCalls(Due due) {
        due.of("Promise 11: said");
        due.by("Of a LINE, what 0: SAID (bits), 1: LIKELY (NONE: none).");
        FrostReplies x = lines(due, "word a 1;word ab 2;", "a", "ab", "b");
        int[][] answers = {{3, 1}, {2, 1}, {0, NONE}};
        for (int k = 0; k < 3; k++) {
            due.is("said " + k, x.said(0, 0, k, 0), answers[k][0]);
            due.is("likely " + k, x.said(0, 0, k, 1), answers[k][1]);
        }
        due.by("-2: there is none such (of any), or for another what.");
        for (int what : new int[] {Due.MIN, -2, -1, 2, 3, Due.MAX}) {
            due.is("what " + what, x.said(0, 0, 0, what), -2);
        }
        for (int k : new int[] {Due.MIN, -2, -1, 3, 4, 6, Due.MAX}) {
            due.is("line " + k, x.said(0, 0, k, 0), -2);
            due.is("line " + k + ", likely", x.said(0, 0, k, 1), -2);
        }
    }

    private static void oddsCalls(Due due) {
        due.of("Promise 12: odds");
        due.by("ODDS of a WORD, N, or (under) D.");
        FrostReplies x = lines(due, "word a 2;word ab 4;word b 0;", "a", "b");
        due.is("N", x.odds(0, 0, 0, 0, false), 1);
        due.is("D", x.odds(0, 0, 0, 0, true), 3);
        due.by("NONE: none that is SAID has OFTEN above 0, or there is none such (of any).");
        due.is("never said, N", x.odds(0, 0, 1, 2, false), NONE);
        due.is("never said, D", x.odds(0, 0, 1, 2, true), NONE);
        due.is("another one by it, D", x.odds(0, 0, 1, 0, true), NONE);
        for (int i : new int[] {Due.MIN, -2, -1, 3, 10, Due.MAX}) {
            due.is("word " + i, x.odds(0, 0, 0, i, false), NONE);
            due.is("word " + i + ", D", x.odds(0, 0, 0, i, true), NONE);
        }
        for (int i : new int[] {Due.MIN, -2, -1, 2, 6, Due.MAX}) {
            due.is("line " + i, x.odds(0, 0, i, 0, false), NONE);
            due.is("line " + i + ", D", x.odds(0, 0, i, 0, true), NONE);
        }
    }

    private static void sureCalls(Due due) {
        due.of("Promise 13: sure");
        due.by("SURE, N, or (under) D.");
        FrostReplies x = lines(due, "word ab 2;word abc 4;word b 0;", "a", "b", "c");
        due.is("N", x.sure(0, 0, 0, false), 5);
        due.is("D", x.sure(0, 0, 0, true), 3);
        due.by("NONE: none that is SAID has OFTEN above 0, or there is none such (of any).");
        due.is("never said, N", x.sure(0, 0, 1, false), NONE);
        due.is("never said, D", x.sure(0, 0, 1, true), NONE);
        due.is("not said, N", x.sure(0, 0, 2, false), NONE);
        due.is("not said, D", x.sure(0, 0, 2, true), NONE);
        for (int i : new int[] {Due.MIN, -2, -1, 3, 6, Due.MAX}) {
            due.is("line " + i, x.sure(0, 0, i, false), NONE);
            due.is("line " + i + ", D", x.sure(0, 0, i, true), NONE);
        }
    }

    private static void readingCalls(Due due) {
        due.of("Promise 14: reading");
        due.by("READINGS of a LINE: how many (i NONE), or the i-th WORD of the first one.");
        FrostReplies x = lines(due, "word b 1;word a 1;word ba 1;", "ab", "c", "ba");
        due.is("how many", x.reading(0, 0, 0, NONE), 1);
        due.is("first", x.reading(0, 0, 0, 0), 1);
        due.is("second", x.reading(0, 0, 0, 1), 0);
        due.is("none", x.reading(0, 0, 1, NONE), 0);
        due.is("two", x.reading(0, 0, 2, NONE), 2);
        due.by("NONE: not so many, or there is none such (of any).");
        for (int i : new int[] {Due.MIN, -3, -2, 2, 3, 11, 12, 13, Due.MAX}) {
            due.is("word " + i, x.reading(0, 0, 0, i), NONE);
            due.is("word " + i + " of no reading", x.reading(0, 0, 1, i), NONE);
        }
        due.is("word 0 of no reading", x.reading(0, 0, 1, 0), NONE);
        for (int k : new int[] {Due.MIN, -2, -1, 3, 6, Due.MAX}) {
            due.is("line " + k, x.reading(0, 0, k, NONE), NONE);
            due.is("word of line " + k, x.reading(0, 0, k, 0), NONE);
        }
    }

    private static void slipsCalls(Due due) {
        due.of("Promise 15: slips");
        due.by("SLIPS of n (bits).");
        FrostReplies x = lines(due, "word a 1;word ab 1;word cd 1;word def 1;", "a", "f");
        int[] bits = {1, 3, 7, 15};
        for (int n = 0; n <= 3; n++) {
            due.is("n " + n, x.slips(0, 0, 0, n), bits[n]);
        }
        due.by("NONE: another n, or there is none such (of any).");
        for (int n : new int[] {Due.MIN, -2, -1, 4, 5, Due.MAX}) {
            due.is("n " + n, x.slips(0, 0, 0, n), NONE);
        }
        for (int k : new int[] {Due.MIN, -2, -1, 2, 6, Due.MAX}) {
            due.is("line " + k, x.slips(0, 0, k, 3), NONE);
        }
    }

    private static void nextCalls(Due due) {
        due.of("Promise 25: next");
        due.by("Of a LINE, what 0: NEXT (bits), 1: KEENEST (NONE: none), 2: MENDED (NONE: by none).");
        FrostReplies x = lines(due, "word ab 1;word ad 2;", "a", "ad", "fa");
        int[][] answers = {{10, 3, NONE}, {0, NONE, 0}, {0, NONE, 2}};
        for (int k = 0; k < 3; k++) {
            for (int what = 0; what < 3; what++) {
                due.is("next " + k + ", " + what, x.next(0, 0, k, what), answers[k][what]);
            }
        }
        due.by("-2: there is none such (of any), or for another what.");
        for (int what : new int[] {Due.MIN, -2, -1, 3, 4, Due.MAX}) {
            due.is("what " + what, x.next(0, 0, 0, what), -2);
        }
        for (int k : new int[] {Due.MIN, -2, -1, 3, 6, Due.MAX}) {
            for (int what = 0; what < 3; what++) {
                due.is("line " + k + ", " + what, x.next(0, 0, k, what), -2);
            }
        }
    }

    private static void echoCalls(Due due) {
        due.of("Promise 26: echo");
        due.by("ECHO: how many, or (place) where (NONE: none).");
        FrostReplies x = due.told(LINES, "line fab;line ab;line c;");
        due.is("how many", x.echo(0, 0, 1, false), 2);
        due.is("where", x.echo(0, 0, 1, true), 1);
        due.is("none", x.echo(0, 0, 2, false), 0);
        due.is("nowhere", x.echo(0, 0, 2, true), NONE);
        due.is("of itself", x.echo(0, 0, 0, false), 3);
        due.is("of itself, where", x.echo(0, 0, 0, true), 0);
        due.by("-2: there is none such (of any).");
        for (int k : new int[] {Due.MIN, -2, -1, 3, 6, Due.MAX}) {
            due.is("the first is " + k, x.echo(0, k, 0, false), -2);
            due.is("the second is " + k, x.echo(0, 0, k, false), -2);
            due.is("the first is " + k + ", where", x.echo(0, k, 0, true), -2);
            due.is("the second is " + k + ", where", x.echo(0, 0, k, true), -2);
            due.is("both are " + k, x.echo(0, k, k, false), -2);
        }
    }
}
