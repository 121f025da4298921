/** Terms 2, DRAWN, what is asked of a CENTURY's end; promises 7, 8, 9, 24, 30. */
final class EdgesOfStones {
    private static final int NONE = Due.NONE;
    private static final int CENTURY = Say.CENTURY;

    /** WORDS of one LETTER: each LETTER is one. */
    private static final String SIX = "word a 1;word b 1;word c 1;word d 1;word e 1;word f 1;";

    private EdgesOfStones() {
    }

    static void run(Due due) {
        due.of("Terms");
        begins(due);
        room(due);
        open(due);
        fits(due);
        frost(due);
        depths(due);
        forge(due);
        moss(due);
        chip(due);
        split(due);
        noStone(due);
        noRoom(due);
        stops(due);
        states(due);
        draws(due);
        ends(due);
        deedCalls(due);
        stateCalls(due);
        stopCalls(due);
        drawnCalls(due);
        afterCalls(due);
    }

    private static FrostReplies century(Due due, String hill, String century) {
        return due.hillAnd(hill, CENTURY, century);
    }

    private static void stop(Due due, String hill, String century, int want) {
        due.is("stop of " + century + " on " + hill, century(due, hill, century).stop(0, 0), want);
    }

    private static void state(Due due, FrostReplies x, int n, int what, int want) {
        due.is("state " + n + ", " + what, x.state(0, 0, n, what), want);
    }

    private static void begins(Due due) {
        due.by("A CENTURY of a HILL begins with STONES that have nothing on them.");
        FrostReplies x = century(due, "word a 1;word b 1;stones 4;", "frost 0 a;moss 0;forge 1 c;split 2;forge 3 a;");
        state(due, x, 5, 0, 4);
        state(due, x, 0, 0, 0);
        for (int s = 0; s < 4; s++) {
            state(due, x, 0, 10 + s, 0);
            state(due, x, 0, 20 + s, 0);
            state(due, x, 0, 30 + s, 0);
            state(due, x, 0, 40 + s, NONE);
            state(due, x, 0, 50 + s, 3);
            state(due, x, 0, 60 + s, 0);
            state(due, x, 0, 100 + 12 * s, -2);
            state(due, x, 0, 200 + 12 * s, -2);
        }
        due.further(x, CENTURY, "frost 0 b;");
        due.is("another century", x.state(0, 1, 1, 100), 1);
        due.is("nothing of the first one", x.state(0, 1, 1, 0), 0);
        due.is("none on stone 1", x.state(0, 1, 1, 11), 0);
    }

    private static void room(Due due) {
        due.by("A STONE has a ROW of LETTERS, 12 at most, each with a DEPTH");
        FrostReplies x = century(due, "stones 4;", "forge 3 a;forge 3 b;forge 3 c;forge 3 d;forge 3 e;forge 3 f;"
            + "forge 3 f;forge 3 e;forge 3 d;forge 3 c;forge 3 b;forge 3 a;forge 3 a;");
        due.is("twelve", x.stop(0, 0), 12);
        for (int n = 0; n <= 12; n++) {
            state(due, x, n, 13, n);
            for (int k = 0; k < 12; k++) {
                state(due, x, n, 136 + k, k >= n ? -2 : k < 6 ? k : 11 - k);
                state(due, x, n, 236 + k, k >= n ? -2 : 5);
            }
        }
        state(due, x, 12, 148, -2);
        state(due, x, 12, 248, -2);
        state(due, x, 12, 135, -2);
        nextToFullStones(due);
        stop(due, "word b 1;", Say.repeat("frost 0 b;moss 0;", 11), 22);
        stop(due, "word b 1;", Say.repeat("frost 0 b;moss 0;", 12), 24);
        stop(due, "word b 1;", Say.repeat("frost 0 b;moss 0;", 12) + "frost 0 b;", 24);
        stop(due, "", Say.repeat("forge 0 a;", 12) + Say.repeat("forge 1 a;", 12), 24);
        stop(due, "", Say.repeat("forge 0 a;", 12) + "chip 0;forge 0 a;forge 0 a;", 14);
    }

    /** A full STONE between two others: none of them has to do with its neighbours' first and last LETTERS. */
    private static void nextToFullStones(Due due) {
        for (int s = 0; s < 4; s++) {
            String full = Say.repeat("forge # f;", 12).replace("#", "" + s);
            FrostReplies x = century(due, "stones 4;" + SIX, full + "frost 0 a;frost 1 a;frost 2 a;frost 3 a;".replace("frost " + s + " a;", ""));
            for (int other = 0; other < 4; other++) {
                boolean same = other == s;
                state(due, x, 15, 10 + other, same ? 12 : 1);
                state(due, x, 15, 20 + other, same ? 12 : 1);
                state(due, x, 15, 50 + other, same ? 0 : 1);
                state(due, x, 15, 60 + other, same ? 12 : 0);
                state(due, x, 15, 100 + 12 * other, same ? 5 : 0);
                state(due, x, 15, 200 + 12 * other, same ? 5 : 9);
                state(due, x, 15, 111 + 12 * other, same ? 5 : -2);
                state(due, x, 15, 211 + 12 * other, same ? 5 : -2);
            }
            due.is("feigned, " + s + " alone", x.after(0, 0, 3), 1 << s);
        }
    }

    private static void open(Due due) {
        due.by("OPEN are those behind its last PAUSE.");
        FrostReplies x = century(due, "word ab 1;word b 1;", "frost 0 a;frost 0 b;moss 0;frost 0 b;frost 1 b;moss 0;forge 0 c;chip 0;moss 1;");
        int[] open = {0, 1, 2, 0, 1, 1, 0, 1, 0, 0};
        int[] openOfOther = {0, 0, 0, 0, 0, 1, 1, 1, 1, 0};
        for (int n = 0; n <= 9; n++) {
            state(due, x, n, 20, open[n]);
            state(due, x, n, 21, openOfOther[n]);
        }
        FrostReplies all = century(due, "", Say.repeat("forge 0 a;", 12));
        state(due, all, 12, 20, 12);
    }

    private static void fits(Due due) {
        due.by("A WORD FITS OPEN LETTERS, if it begins with them (all, if there are none) and may come behind the WORD TOLD last on this STONE.");
        String words = "word a 1;word ab 1;word abc 1;word b 1;";
        FrostReplies x = century(due, words, "frost 0 a;frost 0 b;frost 0 c;forge 0 d;chip 0;chip 0;chip 0;chip 0;");
        int[] fit = {15, 7, 6, 4, 0, 4, 6, 7, 15};
        for (int n = 0; n <= 8; n++) {
            state(due, x, n, 50, fit[n]);
            state(due, x, n, 51, 15);
        }
        x = century(due, words + "follows 0 3;", "frost 0 a;moss 0;frost 0 b;moss 0;");
        int[] fitBehind = {15, 7, 8, 8, 0};
        for (int n = 0; n <= 4; n++) {
            state(due, x, n, 50, fitBehind[n]);
            state(due, x, n, 51, 15);
        }
        x = century(due, "word abcdef 1;", "frost 0 a;frost 0 b;frost 0 c;frost 0 d;frost 0 e;frost 0 f;forge 0 a;");
        state(due, x, 6, 50, 1);
        state(due, x, 7, 50, 0);
        x = century(due, EdgesOfTexts.words(10), "frost 0 a;");
        state(due, x, 0, 50, 1023);
        state(due, x, 1, 50, 1 + 64 + 128 + 256 + 512);
        state(due, century(due, "", ""), 0, 50, 0);
    }

    private static void frost(Due due) {
        due.by("frost: a LETTER comes to a STONE, if then a WORD FITS");
        for (char c = 'a'; c <= 'f'; c++) {
            stop(due, "word c 1;", "frost 0 " + c + ";", c == 'c' ? 1 : 0);
            stop(due, "word c 1;word cf 1;word cb 1;", "frost 0 c;frost 0 " + c + ";", c == 'f' || c == 'b' ? 2 : 1);
            stop(due, "", "frost 0 " + c + ";", 0);
            stop(due, SIX, "frost 0 " + c + ";frost 0 " + c + ";", 1);
        }
        stop(due, "word abcdef 1;", "frost 0 a;frost 0 b;frost 0 c;frost 0 d;frost 0 e;frost 0 f;frost 0 a;", 6);
        stop(due, "word ab 1;", "forge 0 a;frost 0 b;frost 0 b;", 2);
        stop(due, "word ab 1;", "forge 0 b;frost 0 b;", 1);
        stop(due, "word a 1;word b 1;follows 0 1;", "frost 0 a;moss 0;frost 0 a;", 2);
        stop(due, "word a 1;word b 1;follows 0 1;", "frost 0 a;moss 0;frost 0 b;moss 0;frost 0 a;", 4);
        stop(due, "word a 1;word b 1;follows 0 1;", "frost 0 b;moss 0;frost 1 a;frost 0 b;", 3);
    }

    private static void depths(Due due) {
        due.by("DEPTHS of all that are on it are 1 less, 0 at least, then it has DEPTH 9.");
        FrostReplies x = century(due, "word b 1;", Say.repeat("frost 0 b;moss 0;", 12));
        for (int frosts = 1; frosts <= 12; frosts++) {
            for (int k = 0; k < frosts; k++) {
                state(due, x, 2 * frosts - 1, 200 + k, Math.max(0, 9 - (frosts - 1 - k)));
                state(due, x, 2 * frosts, 200 + k, Math.max(0, 9 - (frosts - 1 - k)));
            }
        }
        x = century(due, "word b 1;", "forge 0 b;moss 0;" + Say.repeat("frost 0 b;moss 0;", 7));
        int[] forged = {5, 4, 3, 2, 1, 0, 0, 0};
        for (int frosts = 0; frosts <= 7; frosts++) {
            state(due, x, 2 + 2 * frosts, 200, forged[frosts]);
        }
        x = century(due, "word abc 1;", "frost 0 a;frost 1 a;frost 0 b;forge 0 f;forge 0 f;chip 0;chip 0;frost 0 c;split 1;");
        int[] first = {-2, 9, 9, 8, 8, 8, 8, 8, 7, 7};
        int[] second = {-2, -2, -2, 9, 9, 9, 9, 9, 8, 8};
        int[] other = {-2, -2, 9, 9, 9, 9, 9, 9, 9, 9};
        for (int n = 0; n <= 9; n++) {
            state(due, x, n, 200, first[n]);
            state(due, x, n, 201, second[n]);
            state(due, x, n, 212, other[n]);
        }
    }

    private static void forge(Due due) {
        due.by("forge: a LETTER comes, whatever it is, of DEPTH 5; it is FORGED.");
        for (int letter = 0; letter < 6; letter++) {
            FrostReplies x = century(due, "word ab 1;", "frost 0 a;forge 0 " + (char) ('a' + letter) + ";");
            due.is("it comes", x.stop(0, 0), 2);
            state(due, x, 2, 10, 2);
            state(due, x, 2, 101, letter);
            state(due, x, 2, 200, 9);
            state(due, x, 2, 201, 5);
            state(due, x, 1, 60, 0);
            state(due, x, 2, 60, 1);
            state(due, x, 2, 61, 0);
        }
        FrostReplies x = century(due, "", Say.repeat("forge 0 f;", 12));
        for (int n = 0; n <= 12; n++) {
            state(due, x, n, 60, n);
        }
    }

    private static void moss(Due due) {
        due.by("moss: OPEN LETTERS are one WORD that FITS: it is TOLD; a PAUSE.");
        String words = "word abc 1;word a 1;word abcdef 1;";
        stop(due, words, "moss 0;", 0);
        stop(due, words, "frost 0 a;moss 0;", 2);
        stop(due, words, "frost 0 a;moss 0;moss 0;", 2);
        stop(due, words, "frost 0 a;frost 0 b;moss 0;", 2);
        stop(due, words, "frost 0 a;frost 0 b;frost 0 c;moss 0;", 4);
        stop(due, words, "frost 0 a;frost 0 b;frost 0 c;forge 0 f;moss 0;", 4);
        stop(due, words, "forge 0 a;moss 0;", 2);
        stop(due, words, "forge 0 b;moss 0;", 1);
        stop(due, words, "frost 1 a;moss 0;", 1);
        stop(due, "", "forge 0 a;moss 0;", 1);
        stop(due, words + "follows 0 0;", "frost 0 a;moss 0;forge 0 a;moss 0;", 3);
        stop(due, words + "follows 1 1;", "frost 0 a;moss 0;forge 0 a;moss 0;", 4);
        FrostReplies x = century(due, words, "frost 0 a;moss 0;frost 0 a;frost 0 b;frost 0 c;moss 0;"
            + "frost 0 a;frost 0 b;frost 0 c;frost 0 d;frost 0 e;frost 0 f;moss 0;");
        int[] told = {0, 0, 1, 1, 1, 1, 2, 2, 2, 2, 2, 2, 2, 3};
        int[] last = {NONE, NONE, 1, 1, 1, 1, 0, 0, 0, 0, 0, 0, 0, 2};
        int[] open = {0, 1, 0, 1, 2, 3, 0, 1, 2, 3, 4, 5, 6, 0};
        for (int n = 0; n <= 13; n++) {
            state(due, x, n, 30, told[n]);
            state(due, x, n, 40, last[n]);
            state(due, x, n, 20, open[n]);
            state(due, x, n, 31, 0);
            state(due, x, n, 41, NONE);
        }
        FrostReplies most = century(due, "word b 1;", Say.repeat("frost 1 b;moss 1;", 12));
        state(due, most, 24, 31, 12);
    }

    private static void chip(Due due) {
        due.by("chip: the last one of OPEN LETTERS is taken away.");
        stop(due, SIX, "chip 0;", 0);
        stop(due, SIX, "frost 0 a;chip 0;", 2);
        stop(due, SIX, "frost 0 a;chip 0;chip 0;", 2);
        stop(due, SIX, "frost 0 a;chip 1;", 1);
        stop(due, SIX, "frost 0 a;moss 0;chip 0;", 2);
        stop(due, SIX, "frost 0 a;moss 0;frost 0 b;chip 0;chip 0;", 4);
        stop(due, SIX, Say.repeat("forge 0 a;", 12) + Say.repeat("chip 0;", 13), 24);
        FrostReplies x = century(due, SIX, "frost 0 a;moss 0;forge 0 e;forge 0 f;chip 0;chip 0;frost 0 b;");
        int[] letters = {0, 1, 1, 2, 3, 2, 1, 2};
        int[] forged = {0, 0, 0, 1, 2, 1, 0, 0};
        int[] second = {-2, -2, -2, 4, 4, 4, -2, 1};
        int[] depth = {-2, -2, -2, 5, 5, 5, -2, 9};
        for (int n = 0; n <= 7; n++) {
            state(due, x, n, 10, letters[n]);
            state(due, x, n, 60, forged[n]);
            state(due, x, n, 101, second[n]);
            state(due, x, n, 201, depth[n]);
            state(due, x, n, 30, n < 2 ? 0 : 1);
        }
    }

    private static void split(Due due) {
        due.by("split: a STONE SPLITS: none of these can be on it from then on.");
        String hill = "stones 4;" + SIX;
        for (int s = 0; s < 4; s++) {
            int other = (s + 1) % 4;
            String begin = "frost " + s + " a;frost " + other + " a;split " + s + ";";
            for (String deed : new String[] {"moss #;", "chip #;", "forge # a;", "split #;"}) {
                stop(due, hill, begin + deed.replace("#", "" + s), 3);
                stop(due, hill, begin + deed.replace("#", "" + other), 4);
            }
            stop(due, hill, "split " + s + ";frost " + s + " a;", 1);
            stop(due, hill, "split " + s + ";frost " + other + " a;", 2);
            FrostReplies x = century(due, hill, "frost " + s + " a;moss " + s + ";forge " + s + " b;split " + s + ";");
            state(due, x, 3, 0, 0);
            state(due, x, 4, 0, 1 << s);
            state(due, x, 4, 10 + s, 2);
            state(due, x, 4, 20 + s, 1);
            state(due, x, 4, 30 + s, 1);
            state(due, x, 4, 40 + s, 0);
            state(due, x, 4, 60 + s, 1);
            state(due, x, 4, 100 + 12 * s + 1, 1);
            state(due, x, 4, 200 + 12 * s, 9);
        }
        FrostReplies x = century(due, hill, "split 2;split 0;split 3;split 1;split 1;");
        int[] bits = {0, 4, 5, 13, 15, -2};
        for (int n = 0; n <= 5; n++) {
            state(due, x, n, 0, bits[n]);
        }
    }

    private static void noStone(Due due) {
        due.by("A DEED can't be, if there is no such STONE");
        for (int stones = 1; stones <= 4; stones++) {
            String hill = "stones " + stones + ";" + SIX;
            for (int s = 0; s < 4; s++) {
                boolean there = s < stones;
                stop(due, hill, "frost " + s + " a;", there ? 1 : 0);
                stop(due, hill, "forge " + s + " a;", there ? 1 : 0);
                stop(due, hill, "split " + s + ";", there ? 1 : 0);
                stop(due, hill, "frost " + s + " a;moss " + s + ";", there ? 2 : 0);
                stop(due, hill, "frost " + s + " a;chip " + s + ";", there ? 2 : 0);
                stop(due, hill, "moss " + s + ";", 0);
                stop(due, hill, "chip " + s + ";", 0);
            }
        }
        stop(due, SIX, "frost 1 a;frost 2 a;frost 0 a;", 1);
    }

    private static void noRoom(Due due) {
        due.by("no room on it, or it is not as said.");
        String eleven = Say.repeat("frost 0 b;moss 0;", 11);
        stop(due, SIX, eleven + "forge 0 c;", 23);
        stop(due, SIX, eleven + "frost 0 c;", 23);
        stop(due, SIX, eleven + "forge 0 c;forge 0 c;", 23);
        stop(due, "word b 1;word cc 1;", eleven + "frost 0 c;frost 0 c;", 23);
        stop(due, SIX, eleven + "forge 0 c;moss 0;forge 0 c;", 24);
        stop(due, SIX, eleven + "forge 0 c;chip 0;forge 0 d;chip 0;frost 0 e;moss 0;frost 1 a;frost 0 a;", 29);
        stop(due, SIX, eleven + "forge 0 c;split 0;", 24);
    }

    private static void stops(Due due) {
        due.by("STOP: the first DEED that can't be, else how many there are.");
        stop(due, SIX, "", 0);
        stop(due, "", "", 0);
        stop(due, SIX, "moss 0;frost 0 a;frost 0 a;", 0);
        stop(due, SIX, "frost 0 a;moss 1;moss 0;", 1);
        stop(due, SIX, "frost 0 a;", 1);
        String forty = Say.repeat("forge 0 a;chip 0;", 20);
        stop(due, SIX, forty, 40);
        stop(due, SIX, forty.substring(0, forty.length() - 7) + "moss 1;", 39);
        stop(due, SIX, Say.repeat("forge 0 a;chip 0;", 19) + "chip 0;chip 0;", 38);
    }

    private static void states(Due due) {
        due.by("A STATE is behind the first n DEEDS, n up to STOP.");
        FrostReplies x = century(due, SIX, Say.repeat("forge 0 a;chip 0;", 20));
        for (int n : new int[] {Due.MIN, -2, -1, 41, 42, Due.MAX}) {
            state(due, x, n, 0, -2);
            state(due, x, n, 10, -2);
        }
        for (int n = 0; n <= 40; n++) {
            state(due, x, n, 10, n % 2);
        }
        x = century(due, SIX, "frost 0 a;frost 1 b;moss 0;moss 0;chip 1;");
        int[] letters = {0, 1, 1, 1, -2, -2, -2};
        for (int n = 0; n <= 6; n++) {
            state(due, x, n, 10, letters[n]);
        }
        x = century(due, SIX, "moss 0;");
        state(due, x, 0, 10, 0);
        state(due, x, 1, 10, -2);
        x = century(due, SIX, "");
        state(due, x, 0, 0, 0);
        state(due, x, 1, 0, -2);
    }

    private static void ends(Due due) {
        due.by("Of a CENTURY in a HILL, behind all DEEDS up to STOP: WORDIEST: the STONE on which most WORDS were TOLD, of several the least (on none: none)");
        String hill = "stones 4;" + SIX;
        String on = "frost # a;moss #;";
        after(due, hill, "", 0, NONE);
        after(due, hill, "frost 0 a;", 0, NONE);
        after(due, hill, "moss 0;" + on.replace("#", "1"), 0, NONE);
        for (int s = 0; s < 4; s++) {
            String one = on.replace("#", "" + s);
            String other = on.replace("#", "" + (s + 1) % 4);
            after(due, hill, one, 0, s);
            after(due, hill, other + one + one, 0, s);
            after(due, hill, one + other, 0, Math.min(s, (s + 1) % 4));
            after(due, hill, other + one + "chip 0;" + other + other, 0, Math.min(s, (s + 1) % 4));
        }
        due.by("FIRST: the DEED (from 0 on) by which the first WORD was TOLD (none)");
        after(due, hill, "", 1, NONE);
        after(due, hill, "frost 0 a;moss 1;moss 0;", 1, NONE);
        after(due, hill, "frost 0 a;moss 0;frost 1 a;moss 1;", 1, 1);
        after(due, hill, "frost 0 a;frost 3 b;split 1;moss 3;moss 0;", 1, 3);
        String late = Say.repeat("forge 0 a;chip 0;", 19) + "forge 0 a;moss 0;";
        after(due, hill, late, 1, 39);
        due.by("FULLEST: the most LETTERS there were on any STONE in any STATE");
        after(due, hill, "", 2, 0);
        after(due, hill, "chip 0;forge 0 a;", 2, 0);
        after(due, hill, "forge 0 a;chip 0;", 2, 1);
        after(due, hill, "forge 3 a;forge 3 b;forge 0 a;chip 3;chip 3;", 2, 2);
        after(due, hill, "forge 0 a;forge 1 b;forge 2 a;chip 3;forge 2 a;", 2, 1);
        after(due, hill, Say.repeat("forge 2 a;", 12) + Say.repeat("chip 2;", 12), 2, 12);
        after(due, hill, Say.repeat("forge 2 a;", 13), 2, 12);
        due.by("FEIGNED: STONES (bits) on which there is a FORGED LETTER.");
        after(due, hill, "", 3, 0);
        after(due, hill, "frost 0 a;frost 3 a;", 3, 0);
        after(due, hill, "forge 0 a;forge 3 a;", 3, 9);
        after(due, hill, "forge 0 a;forge 1 a;forge 2 a;forge 3 a;", 3, 15);
        after(due, hill, "forge 0 a;forge 1 a;chip 0;", 3, 2);
        after(due, hill, "forge 0 a;forge 0 b;chip 0;", 3, 1);
        after(due, hill, "forge 2 a;moss 2;frost 2 a;split 2;", 3, 4);
        after(due, hill, "forge 2 a;moss 1;forge 1 a;", 3, 4);
        after(due, hill, "forge 1 a;chip 1;frost 1 a;", 3, 0);
    }

    private static void after(Due due, String hill, String century, int what, int want) {
        due.is("after, " + what + " of " + century, century(due, hill, century).after(0, 0, what), want);
    }

    /** On a HILL whose WORDS are all LETTERS: a frost comes where none is OPEN, moss where one is. */
    private static void draws(Due due) {
        due.by("DRAWN by a SEED, x; a number below n is drawn: x becomes x * 1103515245 + 12345 (of 32 bits), it is x shifted right by 16 without sign, remainder by n: n times, 0 to 60:"
            + " a number below 8, a STONE, below STONES; 0 .. 4: frost, a LETTER, below 6; 5: moss; 6: forge, a LETTER, below 6; 7: chip; each, if it may.");
        int[] seeds = {0, 1, 2, 3, -1, -2, 7, 12345, 1103515245, 65535, 65536, Due.MAX, Due.MIN, 99, -99, 31337};
        for (int stones = 1; stones <= 4; stones++) {
            for (int seed : seeds) {
                FrostReplies x = due.hill("stones " + stones + ";" + SIX);
                Drawn drawn = new Drawn(seed, stones);
                for (int n = 0; n <= 60; n++) {
                    if (n % 15 == 0 || n < 4) {
                        look(due, x, seed, n, drawn);
                    }
                    drawn.once();
                }
            }
        }
    }

    private static void look(Due due, FrostReplies x, int seed, int n, Drawn drawn) {
        int s = (n + seed & 255) % drawn.stones;
        String at = "drawn " + seed + ", " + n + ", on " + s;
        due.is(at + ": letters", x.drawn(0, seed, n, 10 + s), drawn.letters[s].length());
        due.is(at + ": open", x.drawn(0, seed, n, 20 + s), drawn.open[s]);
        due.is(at + ": told", x.drawn(0, seed, n, 30 + s), drawn.told[s]);
        int last = drawn.letters[s].length() - 1;
        due.is(at + ": the last", x.drawn(0, seed, n, 100 + 12 * s + Math.max(0, last)), last < 0 ? -2 : drawn.letters[s].charAt(last) - 'a');
    }

    private static final class Drawn {
        final int stones;
        final String[] letters = {"", "", "", ""};
        final int[] open = new int[4];
        final int[] told = new int[4];
        private long x;

        Drawn(int seed, int many) {
            x = seed & 0xffffffffL;
            stones = many;
        }

        private int below(int n) {
            x = (x * 1103515245L + 12345L) % 4294967296L;
            return (int) (x / 65536 % n);
        }

        void once() {
            int number = below(8);
            int s = below(stones);
            if (number == 5) {
                // a forged LETTER ahead or behind makes no WORD of these
                told[s] += open[s] == 1 ? 1 : 0;
                open[s] = open[s] == 1 ? 0 : open[s];
            } else if (number == 7) {
                letters[s] = open[s] > 0 ? letters[s].substring(0, letters[s].length() - 1) : letters[s];
                open[s] = Math.max(0, open[s] - 1);
            } else {
                char letter = (char) ('a' + below(6));
                if (letters[s].length() < 12 && (number == 6 || open[s] == 0)) {
                    letters[s] += letter;
                    open[s]++;
                }
            }
        }
    }

    private static void deedCalls(Due due) {
        due.of("Promise 7: deed");
        due.by("How many DEEDS (k NONE, what 0); of DEED k, what 0: 0 frost, 1 forge, 2 moss, 3 chip, 4 split, 1, 2: the STONE, the LETTER (NONE without).");
        FrostReplies x = due.told(CENTURY, "frost 0 f;forge 3 a;moss 3;chip 2;split 1;");
        int[][] deeds = {{0, 0, 5}, {1, 3, 0}, {2, 3, NONE}, {3, 2, NONE}, {4, 1, NONE}};
        for (int k = 0; k < 5; k++) {
            for (int what = 0; what < 3; what++) {
                due.is("deed " + k + ", " + what, x.deed(0, k, what), deeds[k][what]);
            }
        }
        due.is("how many", x.deed(0, NONE, 0), 5);
        due.further(x, CENTURY, "");
        due.is("how many of none", x.deed(1, NONE, 0), 0);
        due.by("-2: there is none such (of either), or for another what.");
        for (int what : new int[] {Due.MIN, -2, -1, 3, 4, Due.MAX}) {
            due.is("what " + what, x.deed(0, 0, what), -2);
            due.is("k NONE, what " + what, x.deed(0, NONE, what), -2);
        }
        due.is("k NONE, what 1", x.deed(0, NONE, 1), -2);
        due.is("k NONE, what 2", x.deed(0, NONE, 2), -2);
        for (int k : new int[] {Due.MIN, -2, 5, 6, 40, Due.MAX}) {
            due.is("k " + k, x.deed(0, k, 0), -2);
            due.is("k " + k + ", what 2", x.deed(0, k, 2), -2);
        }
        due.is("k 0 of none", x.deed(1, 0, 0), -2);
    }

    private static void stopCalls(Due due) {
        due.of("Promise 8: stop");
        due.by("STOP. NONE: there is none such (of either).");
        FrostReplies x = century(due, SIX, "frost 0 a;moss 0;chip 0;");
        due.is("stop", x.stop(0, 0), 2);
        due.is("hill 1", x.stop(1, 0), NONE);
        due.is("century 1", x.stop(0, 1), NONE);
        due.is("hill -1", x.stop(-1, 0), NONE);
        due.is("century -1", x.stop(0, -1), NONE);
        due.is("neither", x.stop(2, 2), NONE);
        due.further(x, Say.HILL, "stones 1;");
        due.further(x, CENTURY, "forge 1 a;");
        due.is("of the second hill", x.stop(1, 0), 0);
        due.is("of the second century", x.stop(0, 1), 1);
        due.is("of both second", x.stop(1, 1), 0);
    }

    private static void stateCalls(Due due) {
        due.of("Promise 9: state");
        due.by("Of a STATE, what 0: STONES that have SPLIT (bits), 10 + s: how many LETTERS are on a STONE, 20 + s: how many are OPEN, 30 + s: how many WORDS were TOLD, 40 + s: the last one (NONE),"
            + " 50 + s: WORDS (bits) that FIT, 60 + s: how many FORGED LETTERS are on it, 100 + 12 s + k, 200 + 12 s + k: LETTER, DEPTH of the k-th.");
        FrostReplies x = century(due, "stones 4;word b 1;word ba 1;",
            "frost 0 b;moss 0;frost 0 b;frost 0 a;forge 1 f;frost 3 b;moss 3;frost 3 b;moss 3;forge 3 b;split 1;split 3;");
        int[] whole = {3, 1, 0, 3};
        int[] open = {2, 1, 0, 1};
        int[] told = {1, 0, 0, 2};
        int[] last = {0, NONE, NONE, 0};
        int[] fit = {2, 0, 3, 3};
        int[] forged = {0, 1, 0, 1};
        state(due, x, 12, 0, 10);
        for (int s = 0; s < 4; s++) {
            state(due, x, 12, 10 + s, whole[s]);
            state(due, x, 12, 20 + s, open[s]);
            state(due, x, 12, 30 + s, told[s]);
            state(due, x, 12, 40 + s, last[s]);
            state(due, x, 12, 50 + s, fit[s]);
            state(due, x, 12, 60 + s, forged[s]);
        }
        int[] letters = {1, 1, 0, 5, 1, 1, 1};
        int[] depths = {7, 8, 9, 5, 8, 9, 5};
        int[] at = {0, 1, 2, 12, 36, 37, 38};
        for (int i = 0; i < at.length; i++) {
            state(due, x, 12, 100 + at[i], letters[i]);
            state(due, x, 12, 200 + at[i], depths[i]);
        }
        due.by("-2: there is no such STATE, or for another what.");
        for (int what : new int[] {Due.MIN, -200, -100, -10, -1, 1, 2, 3, 9, 14, 19, 24, 34, 44, 54, 64, 69, 70, 73, 80, 99, 103, 111, 113, 123,
            124, 135, 139, 147, 148, 160, 199, 203, 211, 213, 224, 235, 239, 247, 248, 300, 1000, Due.MAX}) {
            state(due, x, 12, what, -2);
        }
        for (int n : new int[] {Due.MIN, -1, 13, Due.MAX}) {
            state(due, x, n, 0, -2);
        }
        due.instead(x, Say.HILL, "stones 1;word b 1;");
        state(due, x, 0, 10, 0);
        for (int what : new int[] {11, 21, 31, 41, 51, 61, 112, 212}) {
            state(due, x, 0, what, -2);
        }
    }

    private static void drawnCalls(Due due) {
        due.of("Promise 24: drawn");
        due.by("DRAWN, n times, what as state().");
        FrostReplies x = due.hill("stones 1;" + SIX);
        due.is("n 0, letters", x.drawn(0, 5, 0, 10), 0);
        due.is("n 0, last", x.drawn(0, 5, 0, 40), NONE);
        due.is("n 0, fit", x.drawn(0, 5, 0, 50), 63);
        due.is("n 60 splits none", x.drawn(0, 5, 60, 0), 0);
        due.by("-2: there is none such, another n, or for another what.");
        for (int n : new int[] {Due.MIN, -2, -1, 61, 62, Due.MAX}) {
            due.is("n " + n, x.drawn(0, 5, n, 10), -2);
        }
        for (int n : new int[] {0, 1, 59, 60}) {
            due.is("n " + n + " is answered", x.drawn(0, 5, n, 0), 0);
            for (int what : new int[] {Due.MIN, -1, 1, 9, 11, 21, 31, 41, 51, 61, 70, 99, 112, 212, 300, Due.MAX}) {
                due.is("what " + what, x.drawn(0, 5, n, what), -2);
            }
        }
        due.is("no letter yet", x.drawn(0, 5, 0, 100), -2);
        for (int hill : new int[] {Due.MIN, -1, 1, 2, Due.MAX}) {
            due.is("hill " + hill, x.drawn(hill, 5, 0, 0), -2);
        }
    }

    private static void afterCalls(Due due) {
        due.of("Promise 30: after");
        due.by("What 0: WORDIEST (NONE), 1: FIRST (NONE), 2: FULLEST, 3: FEIGNED (bits).");
        FrostReplies x = century(due, SIX, "forge 0 b;frost 1 a;moss 1;frost 1 b;frost 0 b;");
        int[] answers = {1, 2, 2, 1};
        for (int what = 0; what < 4; what++) {
            due.is("after " + what, x.after(0, 0, what), answers[what]);
        }
        due.by("-2: there is none such (of either), or for another what.");
        for (int what : new int[] {Due.MIN, -2, -1, 4, 5, Due.MAX}) {
            due.is("what " + what, x.after(0, 0, what), -2);
        }
        for (int i : new int[] {Due.MIN, -1, 1, 2, Due.MAX}) {
            due.is("hill " + i, x.after(i, 0, 2), -2);
            due.is("century " + i, x.after(0, i, 2), -2);
        }
    }
}
