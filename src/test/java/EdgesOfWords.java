/** What Terms 3 and 5 say of a HILL's WORDS and QUESTIONS; promises 6, 16 to 20, 27 to 29. */
final class EdgesOfWords {
    private static final int NONE = Due.NONE;

    private EdgesOfWords() {
    }

    static void run(Due due) {
        due.of("Terms");
        asked(due);
        soonest(due);
        sentences(due);
        twice(due);
        ghost(due);
        alike(due);
        apart(due);
        closest(due);
        trees(due);
        within(due);
        leads(due);
        chains(due);
        unsure(due);
        hillCalls(due);
        askedCalls(due);
        soonestCalls(due);
        sentencesCalls(due);
        twiceCalls(due);
        ghostCalls(due);
        alikeCalls(due);
        treeCalls(due);
        chainCalls(due);
    }

    private static void askedOf(Due due, String hill, int question, long above, long below) {
        FrostReplies x = due.hill(hill);
        due.is("asked " + question + " on " + hill + ", above", x.asked(0, question, false), above);
        due.is("asked " + question + " on " + hill + ", below", x.asked(0, question, true), below);
    }

    private static void asked(Due due) {
        due.by("ASKED of a QUESTION: as SURE of all WORDS that answer it, of no LETTERS (who answers alone).");
        askedOf(due, "word abcdef 5;asks 0 0;", 0, 0, 1);
        askedOf(due, "word abcdef 5;word abcdee 5;asks 0 0;", 0, 0, 1);
        askedOf(due, "word abcdef 5;word abcdee 5;asks 0 0;asks 0 1;", 0, 6, 1);
        askedOf(due, "word a 5;word b 5;asks 0 0;asks 0 1;", 0, 1, 1);
        askedOf(due, "word a 1;word ab 2;asks 5 0;asks 5 1;", 5, 5, 3);
        askedOf(due, "word a 0;word ab 2;asks 5 0;asks 5 1;", 5, 2, 1);
        askedOf(due, "word a 2;word ab 0;asks 5 0;asks 5 1;", 5, 1, 1);
        askedOf(due, "word a 0;word ab 0;asks 5 0;asks 5 1;", 5, NONE, NONE);
        askedOf(due, "word a 0;word b 9;asks 5 0;", 5, NONE, NONE);
        askedOf(due, "word a 1;asks 1 0;", 0, NONE, NONE);
        askedOf(due, "word a 1;asks 1 0;", 2, NONE, NONE);
        askedOf(due, "", 0, NONE, NONE);
        askedOf(due, "word abc 2;word abd 1;word b 1;word ab 4;asks 3 0;asks 3 1;asks 3 2;", 3, 5, 2);
        askedOf(due, EdgesOfTexts.words(10) + "asks 0 9;asks 0 6;asks 0 7;asks 0 8;", 0, 2, 1);
    }

    private static void soonestOf(Due due, String hill, int want) {
        due.is("soonest on " + hill, due.hill(hill).soonest(0), want);
    }

    private static void soonest(Due due) {
        due.by("SOONEST: the QUESTION of which that is least, of several the least (of those with any OFTEN above 0).");
        String words = "word ab 1;word ac 1;word b 1;word c 0;";
        for (int q = 0; q < 6; q++) {
            soonestOf(due, words + "asks " + q + " 0;asks " + q + " 1;", q);
            for (int other = 0; other < 6; other++) {
                if (other != q) {
                    // 0 more LETTERS of q, 2 of the other; both alike; the other never said
                    soonestOf(due, words + "asks " + q + " 0;asks " + other + " 0;asks " + other + " 1;", q);
                    soonestOf(due, words + "asks " + q + " 0;asks " + other + " 1;", Math.min(q, other));
                    soonestOf(due, words + "asks " + q + " 0;asks " + q + " 1;asks " + other + " 3;", q);
                }
            }
        }
        // 1 more LETTER and 0; 1 and 2; 2 and 1 and 3 by 2
        soonestOf(due, words + "asks 0 0;asks 0 2;asks 1 0;", 1);
        soonestOf(due, words + "asks 0 0;asks 0 2;asks 1 0;asks 1 1;", 0);
        soonestOf(due, words + "asks 0 0;asks 0 1;asks 1 0;asks 1 2;asks 2 0;asks 2 1;asks 2 2;", 1);
        soonestOf(due, words + "asks 3 0;asks 3 1;asks 2 0;asks 2 1;asks 2 2;asks 1 0;asks 1 1;", 2);
        // 3 by 2 of much, 2 of little
        soonestOf(due, "word a 50;word ab 50;word cd 1;word ce 1;asks 0 0;asks 0 1;asks 1 2;asks 1 3;", 0);
        soonestOf(due, "word a 50;word ab 50;word cd 1;word ce 1;asks 1 0;asks 1 1;asks 0 2;asks 0 3;", 1);
        // 5 by 3 and 3 by 2
        soonestOf(due, "word a 1;word ab 2;word ac 1;asks 0 0;asks 0 1;asks 1 0;asks 1 2;", 1);
        soonestOf(due, words + "asks 4 3;", NONE);
        soonestOf(due, words, NONE);
        soonestOf(due, "", NONE);
    }

    private static void sentencesOf(Due due, String hill, int... many) {
        FrostReplies x = due.hill(hill);
        for (int n = 0; n < many.length; n++) {
            due.is("sentences of " + n + " on " + hill, x.sentences(0, n), many[n]);
        }
        due.is("sentences of 7", x.sentences(0, 7), NONE);
        due.is("sentences of -1", x.sentences(0, -1), NONE);
    }

    private static void sentences(Due due) {
        due.by("SENTENCES of n, 0 .. 6: rows of n WORDS, each of which may come behind the one ahead: how many.");
        sentencesOf(due, "", 1, 0, 0, 0, 0, 0, 0);
        sentencesOf(due, "word a 0;", 1, 1, 1, 1, 1, 1, 1);
        sentencesOf(due, "word a 1;word b 1;", 1, 2, 4, 8, 16, 32, 64);
        sentencesOf(due, EdgesOfTexts.words(10), 1, 10, 100, 1000, 10000, 100000, 1000000);
        sentencesOf(due, "word a 1;word b 1;word c 1;follows 0 1;follows 1 2;", 1, 3, 2, 1, 0, 0, 0);
        sentencesOf(due, "word a 1;word b 1;follows 0 0;follows 0 1;", 1, 2, 2, 2, 2, 2, 2);
        sentencesOf(due, "word a 1;word b 1;follows 0 0;follows 0 1;follows 1 0;", 1, 2, 3, 5, 8, 13, 21);
    }

    private static void twiceOf(Due due, String hill, int want) {
        due.is("twice on " + hill, due.hill(hill).twice(0), want);
    }

    private static void twice(Due due) {
        due.by("TWICE: the fewest LETTERS, 24 at most, of a row of these that has two READINGS or more.");
        twiceOf(due, "", NONE);
        twiceOf(due, "word a 1;", NONE);
        twiceOf(due, "word a 1;word b 1;word c 1;word d 1;word e 1;word f 1;", NONE);
        twiceOf(due, "word a 1;word aa 1;", 2);
        twiceOf(due, "word a 0;word aaaaaa 0;", 6);
        twiceOf(due, "word a 1;word b 1;word ab 1;", 2);
        twiceOf(due, "word a 1;word b 1;word ab 1;follows 1 0;", NONE);
        twiceOf(due, "word a 1;word b 1;word ab 1;follows 0 1;", 2);
        twiceOf(due, "word ab 1;word c 1;word a 1;word bc 1;word abc 1;", 3);
        twiceOf(due, "word abcdef 1;word abc 1;word def 1;", 6);
        twiceOf(due, "word abcdef 1;word ab 1;word cd 1;word ef 1;", 6);
        twiceOf(due, "word abc 1;word ab 1;word cde 1;word de 1;", 5);
        twiceOf(due, "word abc 1;word ab 1;word cdef 1;word de 1;word f 1;", 6);
        twiceOf(due, "word abc 1;word ab 1;word cde 1;word df 1;", NONE);
        twiceOf(due, "word abcdef 1;word abc 1;word defabc 1;word def 1;follows 0 1;follows 1 2;", 9);
        twiceOf(due, EdgesOfTexts.words(10), 2);
        twiceOf(due, EdgesOfTexts.tenOfTwo("aa", "bd"), NONE);
        twiceOf(due, EdgesOfTexts.tenOfTwo("aaa", "aa"), 5);
        twiceOf(due, EdgesOfTexts.tenOfTwo("aa", "aaa"), 5);
        twiceOf(due, EdgesOfTexts.tenOfTwo("aa", "aab"), 6);
        twiceOf(due, EdgesOfTexts.tenOfTwo("aab", "b"), 2);
        twiceOf(due, EdgesOfTexts.tenOfTwo("c", "bdc"), NONE);
        twiceOf(due, EdgesOfTexts.tenOfTwo("dc", "bbd"), NONE);
        twiceOf(due, EdgesOfTexts.tenOfTwo("dc", "bcd") + "follows 9 0;", NONE);
        twiceOf(due, EdgesOfTexts.tenOfTwo("c", "bbc") + "follows 7 0;", 3);
        twiceOf(due, EdgesOfTexts.tenOfTwo("bbc", "c") + "follows 7 9;", 3);
        twiceOf(due, EdgesOfTexts.tenOfTwo("bbc", "c") + "follows 9 7;", NONE);
        // behind a and b, none begins with the LETTER that the longer one has there
        twiceOf(due, "word a 1;word cc 1;word cd 1;word ce 1;word ca 1;word ab 1;word db 1;word dc 1;word dd 1;word de 1;", NONE);
        twiceOf(due, "word cc 1;word cd 1;word ce 1;word db 1;word ab 1;word ca 1;word dc 1;word dd 1;word de 1;word a 1;", NONE);
        twiceOf(due, "word bcd 1;word b 1;word a 1;word da 1;word db 1;word dc 1;word dd 1;word de 1;word df 1;word e 1;", NONE);
        String alone = "follows 0 0;follows 1 1;";
        twiceOf(due, "word aaaaa 1;word aaaa 1;" + alone, 20);
        twiceOf(due, "word aaaaaa 1;word aaaaa 1;" + alone, NONE);
        twiceOf(due, "word aaaaaa 1;word aaaaa 1;word aaaa 1;" + alone + "follows 1 2;", 24);
        twiceOf(due, "word aaaaaa 1;word aaaaa 1;word a 1;" + alone + "follows 0 2;", NONE);
        twiceOf(due, "word aaaaaa 1;word aaaaa 1;word aaa 1;" + alone + "follows 1 2;", 18);
        twiceOf(due, "word aaaaaa 1;word aaaaa 1;word aa 1;" + alone + "follows 1 2;", 12);
        // 6 3 and 5 4
        twiceOf(due, "word aaaaaa 1;word aaaaa 1;word aaaa 1;word aaa 1;" + alone + "follows 1 2;follows 0 3;", 9);
        // the greatest couple may come one behind the other alone: none of both orders
        twiceOf(due, "word aaaaa 1;word aaaaaa 1;follows 0 1;", NONE);
        twiceOf(due, "word aaaaa 1;word aaaaaa 1;follows 0 1;follows 1 0;", 11);
    }

    private static void ghostOf(Due due, String hill, int letter) {
        FrostReplies x = due.hill(hill);
        due.is("ghost on " + hill, x.ghost(0, false), letter == NONE ? 0 : 1);
        due.is("the letter on " + hill, x.ghost(0, true), letter);
    }

    private static void ghost(Due due) {
        due.by("GHOST: two by turns put a LETTER behind those there are, so that a WORD still begins with them; who makes a whole WORD loses: 1 if the first one can win, else 0;"
            + " which LETTER first, the least by which he does (who can't put one, as there are no WORDS, loses).");
        ghostOf(due, "", NONE);
        ghostOf(due, "word a 1;", NONE);
        ghostOf(due, "word a 1;word b 1;word c 1;word d 1;word e 1;word f 1;", NONE);
        ghostOf(due, "word ab 1;", 0);
        ghostOf(due, "word fe 0;", 5);
        ghostOf(due, "word abc 1;", NONE);
        ghostOf(due, "word abcd 1;", 0);
        ghostOf(due, "word abcde 1;", NONE);
        ghostOf(due, "word abcdef 1;", 0);
        ghostOf(due, "word ab 1;word cd 1;", 0);
        ghostOf(due, "word abc 1;word cd 1;word ef 1;", 2);
        ghostOf(due, "word a 1;word ab 1;word bcd 1;word fa 1;", 5);
        // behind a the second one turns to c, so that the first one ends acd
        ghostOf(due, "word ab 1;word acd 1;", NONE);
        ghostOf(due, "word ab 1;word acde 1;", 0);
        // ab is whole, so nobody comes to abc
        ghostOf(due, "word abc 1;word ab 1;", 0);
        ghostOf(due, "word aaaaaa 1;word aaaaab 1;word aaaaac 1;word aaaaad 1;word aaaaae 1;word aaaaaf 1;", 0);
        ghostOf(due, EdgesOfTexts.words(10), NONE);
        ghostOf(due, EdgesOfTexts.tenOfTwo("aa", "bd"), 0);
        ghostOf(due, EdgesOfTexts.tenOfTwo("a", "b"), NONE);
        ghostOf(due, EdgesOfTexts.tenOfTwo("a", "bd"), 1);
        // the second one has both: c leads to acd, d to adef
        ghostOf(due, "word adef 1;word acd 1;word b 1;", NONE);
    }

    private static void alike(Due due) {
        due.by("ALIKE of two WORDS: with how many LETTERS both begin alike");
        FrostReplies x = due.hill("word abcdef 1;word abcdee 1;word abc 1;word b 1;word abdcef 1;word fbcdef 1;");
        int[][] many = {{6, 5, 3, 0, 2, 0}, {5, 6, 3, 0, 2, 0}, {3, 3, 3, 0, 2, 0}, {0, 0, 0, 1, 0, 0}, {2, 2, 2, 0, 6, 0}, {0, 0, 0, 0, 0, 6}};
        for (int a = 0; a < 6; a++) {
            for (int b = 0; b < 6; b++) {
                due.is("alike " + a + ", " + b, x.alike(0, a, b, false), many[a][b]);
            }
        }
    }

    private static void apart(Due due) {
        due.by("APART: how few changes (as of SLIPS) there are from the one to the other.");
        FrostReplies x = due.hill("word abcdef 1;word abcdee 1;word abc 1;word b 1;word abdcef 1;word fabcde 1;word fedcba 1;word aaaaaa 1;");
        int[][] far = {{0, 1, 3, 5, 2, 2, 6, 5}, {1, 0, 3, 5, 3, 2, 6, 5}, {3, 3, 0, 2, 3, 3, 5, 5}, {5, 5, 2, 0, 5, 5, 5, 6}};
        for (int a = 0; a < far.length; a++) {
            for (int b = 0; b < 8; b++) {
                due.is("apart " + a + ", " + b, x.alike(0, a, b, true), far[a][b]);
                due.is("apart " + b + ", " + a, x.alike(0, b, a, true), far[a][b]);
            }
        }
    }

    private static void closestOf(Due due, String hill, int couple, int much) {
        FrostReplies x = due.hill(hill);
        due.is("closest on " + hill, x.tree(0, 0), couple);
        due.is("how much on " + hill, x.tree(0, 1), much);
    }

    private static void closest(Due due) {
        due.by("CLOSEST: the couple of WORDS (10 times the one, and the other, greater one), by numbers the first, that are least APART; how much.");
        closestOf(due, "", NONE, NONE);
        closestOf(due, "word abc 1;", NONE, NONE);
        closestOf(due, "word a 1;word b 1;", 1, 1);
        closestOf(due, "word abcdef 1;word fedcba 1;", 1, 6);
        closestOf(due, "word aaaaaa 1;word bbbbbb 1;word cccccc 1;", 1, 6);
        closestOf(due, "word aaaaaa 1;word bbbb 1;word cccc 1;", 12, 4);
        closestOf(due, "word aaa 1;word bbb 1;word ab 1;word cc 1;", 2, 2);
        closestOf(due, "word aaaa 1;word bb 1;word cc 1;word bc 1;", 13, 1);
        closestOf(due, "word aaaaaa 1;word aaaabb 1;word bbbbbb 1;word bbbbaa 1;word cccccc 1;word ccccdd 1;word dddddd 1;"
            + "word ddddee 1;word eeeeee 1;word eeeeef 1;", 89, 1);
        closestOf(due, EdgesOfTexts.words(10), 1, 1);
    }

    private static void treeOf(Due due, String hill, int what, int want) {
        due.is("tree, " + what + " on " + hill, due.hill(hill).tree(0, what), want);
    }

    private static void trees(Due due) {
        due.by("TREE: how many unlike rows of LETTERS (one at least) there are with which any WORD begins");
        treeOf(due, "", 2, 0);
        treeOf(due, "word a 1;", 2, 1);
        treeOf(due, "word abcdef 1;", 2, 6);
        treeOf(due, "word abcdef 1;word abc 1;", 2, 6);
        treeOf(due, "word abc 1;word abcdef 1;", 2, 6);
        treeOf(due, "word abc 1;word bc 1;word c 1;", 2, 6);
        treeOf(due, "word aaaaaa 1;word aaaaab 1;word aaabbb 1;word b 1;", 2, 11);
        treeOf(due, "word aab 1;word b 1;word aac 1;word ab 1;", 2, 6);
        treeOf(due, EdgesOfTexts.words(10), 2, 10);
        treeOf(due, "word abcdef 1;word bcdefa 1;word cdefab 1;word defabc 1;word efabcd 1;word fabcde 1;word aabbcc 1;word babbcc 1;"
            + "word cabbcc 1;word dabbcc 1;", 2, 36 + 20);
    }

    private static void within(Due due) {
        due.by("WITHIN: WORDS (bits) with which another one begins.");
        treeOf(due, "", 3, 0);
        treeOf(due, "word a 1;", 3, 0);
        treeOf(due, "word a 1;word b 1;", 3, 0);
        treeOf(due, "word a 1;word ab 1;", 3, 1);
        treeOf(due, "word ab 1;word a 1;", 3, 2);
        treeOf(due, "word ab 1;word b 1;", 3, 0);
        treeOf(due, "word abcdef 1;word abcde 1;word abcd 1;word abc 1;word ab 1;word a 1;", 3, 62);
        treeOf(due, EdgesOfTexts.words(10), 3, 1);
        treeOf(due, "word a 1;word ab 1;follows 0 0;", 3, 1);
    }

    private static void leadsOf(Due due, String hill, int... bits) {
        FrostReplies x = due.hill(hill);
        for (int w = 0; w < bits.length; w++) {
            due.is("leads of " + w + " on " + hill, x.tree(0, 10 + w), bits[w]);
        }
        due.is("leads of " + bits.length + " on " + hill, x.tree(0, 10 + bits.length), -2);
    }

    private static void leads(Due due) {
        due.by("LEADS of a WORD: WORDS (bits) to which one comes from it by FOLLOWS, one behind the other (itself only if so).");
        leadsOf(due, "");
        leadsOf(due, "word a 1;", 1);
        leadsOf(due, "word a 1;word b 1;follows 0 1;", 2, 0);
        leadsOf(due, "word a 1;word b 1;follows 0 0;", 1, 0);
        leadsOf(due, "word a 1;word b 1;follows 0 1;follows 1 0;", 3, 3);
        leadsOf(due, "word a 1;word b 1;word c 1;follows 0 1;follows 1 1;", 2, 2, 0);
        StringBuilder up = new StringBuilder();
        StringBuilder down = new StringBuilder();
        int[] above = new int[10];
        int[] below = new int[10];
        for (int w = 0; w < 9; w++) {
            up.append("follows ").append(w).append(' ').append(w + 1).append(';');
            down.append("follows ").append(w + 1).append(' ').append(w).append(';');
        }
        for (int w = 0; w < 10; w++) {
            above[w] = 1023 & ~((1 << w + 1) - 1);
            below[w] = (1 << w) - 1;
        }
        leadsOf(due, EdgesOfTexts.words(10) + up, above);
        leadsOf(due, EdgesOfTexts.words(10) + down, below);
        leadsOf(due, EdgesOfTexts.words(10) + down + "follows 0 9;", 1023, 1023, 1023, 1023, 1023, 1023, 1023, 1023, 1023, 1023);
        leadsOf(due, EdgesOfTexts.words(10), 1023, 1023, 1023, 1023, 1023, 1023, 1023, 1023, 1023, 1023);
    }

    private static void chainOf(Due due, String hill, int... row) {
        FrostReplies x = due.hill(hill);
        due.is("chain on " + hill, x.chain(0, NONE), row.length);
        for (int k = 0; k < row.length; k++) {
            due.is("chain, " + k + " on " + hill, x.chain(0, k), row[k]);
        }
        due.is("behind the chain on " + hill, x.chain(0, row.length), NONE);
    }

    private static void chains(Due due) {
        due.by("CHAIN: the longest row of unlike WORDS, each of which may come behind the one ahead: how many; the first one by numbers: the k-th.");
        String three = "word a 1;word b 1;word c 1;";
        chainOf(due, "");
        chainOf(due, "word a 1;", 0);
        chainOf(due, three, 0, 1, 2);
        chainOf(due, three + "follows 0 0;", 0);
        chainOf(due, three + "follows 2 2;", 0);
        chainOf(due, three + "follows 2 1;", 2, 1);
        chainOf(due, three + "follows 2 1;follows 1 0;", 2, 1, 0);
        chainOf(due, three + "follows 2 1;follows 1 2;follows 0 0;", 1, 2);
        chainOf(due, three + "follows 0 2;follows 0 1;", 0, 1);
        chainOf(due, three + "follows 0 2;follows 2 1;follows 0 1;", 0, 2, 1);
        chainOf(due, EdgesOfTexts.words(10), 0, 1, 2, 3, 4, 5, 6, 7, 8, 9);
        StringBuilder down = new StringBuilder();
        for (int w = 9; w > 0; w--) {
            down.append("follows ").append(w).append(' ').append(w - 1).append(';');
        }
        chainOf(due, EdgesOfTexts.words(10) + down, 9, 8, 7, 6, 5, 4, 3, 2, 1, 0);
        chainOf(due, EdgesOfTexts.words(10) + down + "follows 0 9;", 0, 9, 8, 7, 6, 5, 4, 3, 2, 1);
        chainOf(due, EdgesOfTexts.words(10) + "follows 9 0;", 9, 0);
        chainOf(due, EdgesOfTexts.words(10) + "follows 4 7;follows 7 4;", 4, 7);
    }

    private static void unsure(Due due) {
        due.by("UNSURE: QUESTIONS (bits) of which some answer is whole ahead of its being told from another answer (it begins another one).");
        String words = "word ab 1;word abc 0;word b 0;";
        treeOf(due, "", 4, 0);
        treeOf(due, words, 4, 0);
        for (int q = 0; q < 6; q++) {
            treeOf(due, words + "asks " + q + " 0;asks " + q + " 1;", 4, 1 << q);
            treeOf(due, words + "asks " + q + " 1;asks " + q + " 0;", 4, 1 << q);
            treeOf(due, words + "asks " + q + " 0;asks " + q + " 2;", 4, 0);
            treeOf(due, words + "asks " + q + " 0;asks " + (q + 1) % 6 + " 1;", 4, 0);
            treeOf(due, words + "asks " + q + " 0;", 4, 0);
        }
        StringBuilder all = new StringBuilder(words);
        for (int q = 0; q < 6; q++) {
            all.append("asks ").append(q).append(" 0;asks ").append(q).append(" 1;");
        }
        treeOf(due, all.toString(), 4, 63);
    }

    private static void hillCalls(Due due) {
        due.of("Promise 6: hill");
        due.by("Of a HILL, what 0: STONES, 1: WORDS, 10 + w, 20 + w: how many LETTERS, OFTEN of a WORD, 30 + w: WORDS (bits) that may come behind it, 40 + q: WORDS (bits) that answer a QUESTION, 100 + 6 w + k: the k-th LETTER of a WORD.");
        FrostReplies x = due.hill(EdgesOfTexts.words(9) + "word fedcba 99;follows 0 9;follows 9 1;asks 0 9;asks 5 0;stones 3;");
        due.is("stones", x.hill(0, 0), 3);
        due.is("words", x.hill(0, 1), 10);
        int[] letters = {1, 1, 1, 1, 1, 1, 2, 2, 2, 6};
        for (int w = 0; w < 10; w++) {
            due.is("letters of " + w, x.hill(0, 10 + w), letters[w]);
            due.is("often of " + w, x.hill(0, 20 + w), w == 9 ? 99 : w);
            due.is("behind " + w, x.hill(0, 30 + w), w == 0 ? 512 : w == 9 ? 2 : 0);
        }
        for (int q = 0; q < 6; q++) {
            due.is("answers of " + q, x.hill(0, 40 + q), q == 0 ? 512 : q == 5 ? 1 : 0);
        }
        for (int k = 0; k < 6; k++) {
            due.is("letter " + k + " of 9", x.hill(0, 154 + k), 5 - k);
            due.is("letter " + k + " of 0", x.hill(0, 100 + k), k == 0 ? 0 : NONE);
            due.is("letter " + k + " of 8", x.hill(0, 148 + k), k == 0 ? 0 : k == 1 ? 2 : NONE);
        }
        due.by("NONE: there is none such (of any), or for another what.");
        for (int what : new int[] {Due.MIN, -100, -10, -1, 2, 3, 9, 46, 47, 50, 60, 99, 160, 161, 1000, Due.MAX}) {
            due.is("what " + what, x.hill(0, what), NONE);
        }
        due.further(x, Say.HILL, "word ab 1;");
        for (int what : new int[] {11, 19, 21, 29, 31, 39, 102, 105, 106, 107, 159, 160}) {
            due.is("what " + what + " of one word", x.hill(1, what), NONE);
        }
        due.instead(x, Say.HILL, "");
        for (int what : new int[] {10, 19, 20, 29, 30, 39, 100, 159}) {
            due.is("what " + what + " of no words", x.hill(0, what), NONE);
        }
        due.is("no answers", x.hill(0, 40), 0);
        due.is("no words", x.hill(0, 1), 0);
    }

    private static void askedCalls(Due due) {
        due.of("Promise 16: asked");
        due.by("ASKED, N, or (under) D.");
        FrostReplies x = due.hill("word a 2;word ab 4;word b 0;asks 0 0;asks 0 1;asks 5 2;asks 4 0;");
        due.is("N", x.asked(0, 0, false), 5);
        due.is("D", x.asked(0, 0, true), 3);
        due.is("alone, N", x.asked(0, 4, false), 0);
        due.is("alone, D", x.asked(0, 4, true), 1);
        due.by("NONE: no WORD that answers it has OFTEN above 0, or there is none such (of either).");
        due.is("never said, N", x.asked(0, 5, false), NONE);
        due.is("never said, D", x.asked(0, 5, true), NONE);
        due.is("no answers, N", x.asked(0, 3, false), NONE);
        due.is("no answers, D", x.asked(0, 3, true), NONE);
        for (int q : new int[] {Due.MIN, -2, -1, 6, 7, Due.MAX}) {
            due.is("question " + q, x.asked(0, q, false), NONE);
            due.is("question " + q + ", D", x.asked(0, q, true), NONE);
        }
    }

    private static void soonestCalls(Due due) {
        due.of("Promise 17: soonest");
        due.by("SOONEST. NONE: none, or there is none such.");
        FrostReplies x = due.hill("word a 2;word ab 4;asks 0 0;asks 0 1;asks 5 1;");
        due.is("soonest", x.soonest(0), 5);
        due.is("no hill", x.soonest(1), NONE);
        due.is("no hill -1", x.soonest(-1), NONE);
        due.further(x, Say.HILL, "word a 0;asks 0 0;");
        due.is("none", x.soonest(1), NONE);
        due.is("hill 2", x.soonest(2), NONE);
    }

    private static void sentencesCalls(Due due) {
        due.of("Promise 18: sentences");
        due.by("SENTENCES of n. NONE: another n, or there is none such.");
        FrostReplies x = due.hill("word a 1;word b 1;");
        due.is("n 0", x.sentences(0, 0), 1);
        due.is("n 6", x.sentences(0, 6), 64);
        for (int n : new int[] {Due.MIN, -2, -1, 7, 8, Due.MAX}) {
            due.is("n " + n, x.sentences(0, n), NONE);
        }
        due.is("no hill", x.sentences(1, 0), NONE);
        due.is("no hill -1", x.sentences(-1, 6), NONE);
    }

    private static void twiceCalls(Due due) {
        due.of("Promise 19: twice");
        due.by("TWICE. NONE: none has (up to 24), or there is none such.");
        FrostReplies x = due.hill("word a 1;word aa 1;");
        due.is("two", x.twice(0), 2);
        due.is("no hill", x.twice(1), NONE);
        due.is("no hill -1", x.twice(-1), NONE);
        due.further(x, Say.HILL, "word a 1;");
        due.is("none", x.twice(1), NONE);
        due.is("two still", x.twice(0), 2);
    }

    private static void ghostCalls(Due due) {
        due.of("Promise 20: ghost");
        due.by("GHOST, or (first) the LETTER (NONE: he can't win).");
        FrostReplies x = due.hill("word cd 1;");
        due.is("he wins", x.ghost(0, false), 1);
        due.is("by c", x.ghost(0, true), 2);
        due.further(x, Say.HILL, "word c 1;");
        due.is("he can't", x.ghost(1, false), 0);
        due.is("by none", x.ghost(1, true), NONE);
        due.by("-2: there is none such.");
        for (int hill : new int[] {Due.MIN, -2, -1, 2, Due.MAX}) {
            due.is("hill " + hill, x.ghost(hill, false), -2);
            due.is("hill " + hill + ", first", x.ghost(hill, true), -2);
        }
    }

    private static void alikeCalls(Due due) {
        due.of("Promise 27: alike");
        due.by("ALIKE, or (apart) APART.");
        FrostReplies x = due.hill("word abc 1;word abd 1;");
        due.is("alike", x.alike(0, 0, 1, false), 2);
        due.is("apart", x.alike(0, 0, 1, true), 1);
        due.by("NONE: there is none such (of any).");
        for (int w : new int[] {Due.MIN, -2, -1, 2, 9, 10, Due.MAX}) {
            due.is("the first is " + w, x.alike(0, w, 0, false), NONE);
            due.is("the second is " + w, x.alike(0, 0, w, false), NONE);
            due.is("the first is " + w + ", apart", x.alike(0, w, 0, true), NONE);
            due.is("the second is " + w + ", apart", x.alike(0, 0, w, true), NONE);
            due.is("both are " + w, x.alike(0, w, w, true), NONE);
        }
        due.further(x, Say.HILL, "");
        due.is("of no words", x.alike(1, 0, 0, false), NONE);
    }

    private static void treeCalls(Due due) {
        due.of("Promise 28: tree");
        due.by("What 0: CLOSEST, the couple, 1: how much (NONE of both: fewer than two WORDS), 2: TREE, 3: WITHIN (bits), 4: UNSURE (bits), 10 + w: LEADS of a WORD (bits).");
        FrostReplies x = due.hill("word b 1;word a 1;word abc 1;follows 1 2;follows 2 2;asks 1 1;asks 1 2;");
        int[] answers = {1, 1, 4, 2, 2};
        for (int what = 0; what < 5; what++) {
            due.is("tree " + what, x.tree(0, what), answers[what]);
        }
        due.is("leads of 0", x.tree(0, 10), 0);
        due.is("leads of 1", x.tree(0, 11), 4);
        due.is("leads of 2", x.tree(0, 12), 4);
        due.by("-2: there is none such (of either), or for another what.");
        for (int what : new int[] {Due.MIN, Due.MIN + 9, Due.MIN + 10, -10, -2, -1, 5, 6, 8, 9, 13, 19, 20, 100, Due.MAX}) {
            due.is("what " + what, x.tree(0, what), -2);
        }
        due.further(x, Say.HILL, "");
        int[] ofNone = {NONE, NONE, 0, 0, 0};
        for (int what = 0; what < 5; what++) {
            due.is("of no words " + what, x.tree(1, what), ofNone[what]);
            due.is("hill 2, " + what, x.tree(2, what), -2);
            due.is("hill -1, " + what, x.tree(-1, what), -2);
        }
        due.is("leads of no words", x.tree(1, 10), -2);
        due.is("leads of no hill", x.tree(2, 10), -2);
    }

    private static void chainCalls(Due due) {
        due.of("Promise 29: chain");
        due.by("CHAIN: how many (k NONE), or the k-th.");
        FrostReplies x = due.hill("word a 1;word b 1;follows 1 0;");
        due.is("how many", x.chain(0, NONE), 2);
        due.is("first", x.chain(0, 0), 1);
        due.is("second", x.chain(0, 1), 0);
        due.by("NONE: not so many, or there is none such.");
        for (int k : new int[] {Due.MIN, -3, -2, 2, 3, 9, 10, Due.MAX}) {
            due.is("word " + k, x.chain(0, k), NONE);
        }
        for (int hill : new int[] {Due.MIN, -2, -1, 1, 2, Due.MAX}) {
            due.is("hill " + hill, x.chain(hill, NONE), NONE);
            due.is("hill " + hill + ", the first", x.chain(hill, 0), NONE);
        }
    }
}
