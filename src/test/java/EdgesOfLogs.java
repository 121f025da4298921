import java.math.BigInteger;

/** Terms 4 but DRAWN, AGE and WAIT of Terms 5; promises 21, 22, 23, 31, 32. */
final class EdgesOfLogs {
    private static final int NONE = Due.NONE;
    private static final int LOG = Say.LOG;

    /** By each of these RULES the frost of PLACE 11 is 9 deep and that of PLACE 0 is 8 deep, and by no other. */
    private static final int[] SIXTEEN = {9160, 9170, 9171, 9172, 9180, 9181, 9182, 9183, 9184, 9190, 9191, 9192, 9193, 9194, 9195, 9196};

    private EdgesOfLogs() {
    }

    static void run(Due due) {
        due.of("Terms");
        starts(due);
        gaps(due);
        wears(due);
        years(due);
        cut(due);
        best(due);
        places(due);
        chances(due);
        ages(due);
        waits(due);
        factCalls(due);
        forgedCalls(due);
        chanceCalls(due);
        ageCalls(due);
        waitsCalls(due);
    }

    /** A LOG of PLACES and DEPTHS by turns. */
    private static FrostReplies log(Due due, int... facts) {
        StringBuilder text = new StringBuilder();
        for (int i = 0; i < facts.length; i += 2) {
            text.append("depth ").append(facts[i]).append(' ').append(facts[i + 1]).append(';');
        }
        return due.told(LOG, text.toString());
    }

    /** All RULES that FIT best, if they are few. */
    private static void rules(Due due, FrostReplies x, int forged, int... rules) {
        due.is("forged", x.forged(0, 0), forged);
        due.is("how many rules", x.forged(0, 1), rules.length);
        for (int k = 0; k < rules.length; k++) {
            due.is("rule " + k, x.forged(0, 10 + k), rules[k]);
        }
        due.is("no rule " + rules.length, x.forged(0, 10 + rules.length), -2);
    }

    /** How many RULES FIT best, the first and the last one. */
    private static void rulesUpTo(Due due, FrostReplies x, int forged, int many, int first, int last) {
        due.is("forged", x.forged(0, 0), forged);
        due.is("how many rules", x.forged(0, 1), many);
        due.is("the first rule", x.forged(0, 10), first);
        due.is("the last rule", x.forged(0, 10 + many - 1), last);
        due.is("behind the last rule", x.forged(0, 10 + many), -2);
    }

    private static void starts(Due due) {
        due.by("By a LOG: the first frost left DEPTH s, 1 .. 9, as each one did");
        // of no FACTS all RULES are so: 9 s, 9 g, 9 w, 10 t
        rulesUpTo(due, log(due), 0, 7290, 1110, 9999);
        // s 9 and t below w: 45 of these, each with 9 g
        rulesUpTo(due, log(due, 0, 9), 0, 405, 9110, 9998);
        rulesUpTo(due, log(due, 0, 8), 0, 9 * (45 + 25), 8110, 9999);
        rulesUpTo(due, log(due, 0, 1), 0, 9 * 89, 1110, 9918);
        // t is s times w or more
        rulesUpTo(due, log(due, 0, 0), 0, 900, 1111, 9919);
    }

    private static void gaps(Due due) {
        due.by("one frost came each g years, 1 .. 9");
        rules(due, log(due, 1, 9, 0, 0), 0, 9910);
        rules(due, log(due, 11, 9, 0, 8), 0, SIXTEEN);
    }

    private static void wears(Due due) {
        due.by("DEPTHS are 1 less each w years, 1 .. 9 (0 at least)");
        rules(due, log(due, 8, 9, 0, 9), 0, 9190);
        rules(due, log(due, 2, 9, 1, 0), 0, 9910);
        rules(due, log(due, 2, 9, 1, 0, 0, 0), 0, 9910);
        rules(due, log(due, 11, 9, 10, 0, 0, 0), 0, 9910);
        // 9 years of 9 are too many, and so is one frost ahead of PLACE 0
        FrostReplies x = log(due, 9, 9, 0, 9);
        due.is("one of both is forged", x.forged(0, 0), 1);
    }

    private static void years(Due due) {
        due.by("now it is t years, 0 .. 9, behind the last one of as many as PLACES go (the last PLACE told of any FACT)");
        FrostReplies x = log(due);
        int[] at = {0, 1, 8, 9, 10, 19, 89, 90, 809, 810, 7288, 7289};
        int[] rules = {1110, 1111, 1118, 1119, 1120, 1129, 1199, 1210, 1999, 2110, 9998, 9999};
        for (int i = 0; i < at.length; i++) {
            due.is("rule " + at[i], x.forged(0, 10 + at[i]), rules[i]);
        }
        // s is 1 to 9, w 1, t 9
        FrostReplies most = log(due, 0, 0, 0, 0);
        due.is("the last by t 9", most.forged(0, 10 + 899), 9919);
        rules(due, log(due, 11, 9, 0, 8), 0, SIXTEEN);
        rules(due, log(due, 0, 8, 11, 9), 0, SIXTEEN);
        rules(due, log(due, 0, 8, 11, 9, 0, 8), 0, SIXTEEN);
        // the last PLACE is as if it were the first frost, if there is no other
        for (int place = 0; place < 12; place++) {
            rulesUpTo(due, log(due, place, 9), 0, 405, 9110, 9998);
        }
    }

    private static void cut(Due due) {
        due.by("the DEPTH of the i-th is s less ((last PLACE less i) times g, and t) by w, cut.");
        // g and t are below w, twice g and t are w or more: PLACE 1 is as the last one, PLACE 0 is one less
        FrostReplies x = log(due, 2, 9, 1, 9, 0, 8);
        int many = 0;
        for (int g = 1; g <= 9; g++) {
            for (int w = 1; w <= 9; w++) {
                for (int t = 0; t <= 9; t++) {
                    many += g + t < w && 2 * g + t >= w && 2 * g + t < 2 * w ? 1 : 0;
                }
            }
        }
        due.is("how many", x.forged(0, 1), many);
        due.is("the first", x.forged(0, 10), 9120);
        due.is("none forged", x.forged(0, 0), 0);
    }

    private static void best(Due due) {
        due.by("RULES (1000 times s, 100 times g, 10 times w, and t) FIT best, if the fewest FACTS are not so: FORGED: how few; how many RULES FIT best; the k-th, by numbers");
        rulesUpTo(due, log(due, 0, 5, 0, 6), 1, 765 + 738, 5110, 9939);
        rulesUpTo(due, log(due, 0, 5, 0, 6, 0, 6), 1, 738, 6110, 9939);
        rulesUpTo(due, log(due, 0, 0, 0, 1, 0, 2, 0, 3, 0, 4, 0, 5, 0, 6, 0, 7), 7, 7290 - 405 - 630, 1110, 9949);
        rules(due, log(due, 1, 9, 0, 0, 0, 1, 0, 2, 0, 0), 2, 9910);
        rules(due, log(due, 8, 9, 8, 9, 0, 9, 0, 9, 8, 1, 8, 2, 0, 1, 0, 2), 4, 9190);
        rules(due, log(due, 8, 9, 8, 9, 8, 9, 8, 9, 0, 9, 0, 9, 0, 9, 0, 9), 0, 9190);
    }

    private static void places(Due due) {
        due.by("PLACES (bits) of which by each of these some FACT is not so (of several FACTS of one PLACE whichever).");
        due.is("of no facts", log(due).forged(0, 2), 0);
        due.is("of none forged", log(due, 0, 5, 11, 6).forged(0, 2), 0);
        due.is("either of place 0", log(due, 0, 5, 0, 6).forged(0, 2), 1);
        due.is("either of place 11", log(due, 11, 5, 11, 6).forged(0, 2), 2048);
        due.is("of place 1 alone", log(due, 0, 5, 1, 5, 1, 6).forged(0, 2), 2);
        due.is("of one or the other", log(due, 0, 9, 1, 8).forged(0, 2), 0);
        due.is("of two places", log(due, 8, 9, 8, 8, 8, 9, 0, 9, 0, 8, 0, 9).forged(0, 2), 257);
        due.is("of twelve frosts the first", log(due, 11, 9, 11, 9, 0, 9).forged(0, 2), 1);
        due.is("of twelve frosts the last", log(due, 11, 1, 5, 4, 5, 4).forged(0, 2), 2048);
        // by 9910 alone: PLACES 1 and 0 are 0 deep, as they would be below 0
        due.is("of the last place alone", log(due, 2, 9, 2, 9, 2, 8, 1, 0, 0, 0).forged(0, 2), 4);
        // 9 deep are nine frosts at the most, so the first three are not
        due.is("of twelve frosts three", log(due, 11, 9, 0, 9, 0, 9, 1, 9, 2, 9, 3, 9).forged(0, 2), 7);
    }

    private static long gcd(long a, long b) {
        return BigInteger.valueOf(a).gcd(BigInteger.valueOf(b)).longValue();
    }

    /** Of 10^y ways the years can go, in how many there are n or more. */
    private static long ways(int n, int y, int p) {
        if (y == 0) {
            return n <= 0 ? 1 : 0;
        }
        return p * ways(n - 1, y - 1, p) + (10 - p) * ways(n, y - 1, p);
    }

    private static void chances(Due due) {
        due.by("CHANCE of n LETTERS, 1 .. 12, y years, 0 .. 9, p, 0 .. 10: in each year a frost brings one LETTER by p of ten, by itself: how likely there are n or more behind y years, a fraction in least terms.");
        for (int n = 1; n <= 12; n++) {
            for (int y = 0; y <= 9; y++) {
                FrostReplies x = new FrostReplies();
                for (int p = 0; p <= 10; p++) {
                    long ways = ways(n, y, p);
                    long all = BigInteger.TEN.pow(y).longValue();
                    long divisor = gcd(ways, all);
                    String at = "chance " + n + ", " + y + ", " + p;
                    due.is(at + ", above", x.chance(n, y, p, false), ways / divisor);
                    due.is(at + ", below", x.chance(n, y, p, true), all / divisor);
                }
            }
        }
        FrostReplies x = new FrostReplies();
        due.is("never", x.chance(1, 9, 0, false), 0);
        due.is("never, below", x.chance(1, 9, 0, true), 1);
        due.is("surely", x.chance(9, 9, 10, false), 1);
        due.is("surely not", x.chance(10, 9, 10, false), 0);
        due.is("in no years", x.chance(1, 0, 10, false), 0);
        due.is("9 of 9 by 1", x.chance(9, 9, 1, true), 1000000000);
    }

    private static void age(Due due, FrostReplies x, int least, int most) {
        due.is("least", x.age(0, false), least);
        due.is("most", x.age(0, true), most);
    }

    private static void ages(Due due) {
        due.by("By a LOG: AGE: the least, the most years since the frost of PLACE 0 (the last PLACE times g, and t) by all RULES that FIT best.");
        age(due, log(due), 0, 9);
        age(due, log(due, 0, 9), 0, 8);
        age(due, log(due, 0, 0), 1, 9);
        age(due, log(due, 11, 0), 12, 108);
        age(due, log(due, 11, 9), 11, 107);
        age(due, log(due, 11, 9, 0, 8), 11, 17);
        age(due, log(due, 0, 8, 11, 9), 11, 17);
        age(due, log(due, 8, 9, 0, 9), 8, 8);
        age(due, log(due, 1, 9, 0, 8), 1, 17);
        age(due, log(due, 1, 9, 0, 0), 9, 9);
        age(due, log(due, 11, 9, 10, 0), 99, 99);
    }

    private static void waits(Due due) {
        due.by("WAIT of n LETTERS, 1 .. 12, p, 1 .. 10: how many years it takes in the mean until there are n (as of CHANCE), a fraction in least terms.");
        FrostReplies x = new FrostReplies();
        for (int n = 1; n <= 12; n++) {
            for (int p = 1; p <= 10; p++) {
                long divisor = gcd(10L * n, p);
                due.is("waits " + n + ", " + p, x.waits(n, p, false), 10L * n / divisor);
                due.is("waits " + n + ", " + p + ", below", x.waits(n, p, true), p / divisor);
            }
        }
        due.is("a year each", x.waits(12, 10, false), 12);
        due.is("ten years each", x.waits(12, 1, false), 120);
    }

    private static void factCalls(Due due) {
        due.of("Promise 21: fact");
        due.by("How many FACTS (k NONE, what 0); of FACT k, what 0: the PLACE, 1: the DEPTH.");
        FrostReplies x = log(due, 11, 0, 0, 9, 5, 6);
        due.is("how many", x.fact(0, NONE, 0), 3);
        int[][] facts = {{11, 0}, {0, 9}, {5, 6}};
        for (int k = 0; k < 3; k++) {
            due.is("place of " + k, x.fact(0, k, 0), facts[k][0]);
            due.is("depth of " + k, x.fact(0, k, 1), facts[k][1]);
        }
        due.further(x, LOG, "");
        due.is("how many of none", x.fact(1, NONE, 0), 0);
        due.by("-2: there is none such (of either), or for another what.");
        for (int k : new int[] {Due.MIN, -2, 3, 4, 8, Due.MAX}) {
            due.is("fact " + k, x.fact(0, k, 0), -2);
            due.is("fact " + k + ", depth", x.fact(0, k, 1), -2);
        }
        for (int what : new int[] {Due.MIN, -2, -1, 2, 3, Due.MAX}) {
            due.is("what " + what, x.fact(0, 0, what), -2);
            due.is("k NONE, what " + what, x.fact(0, NONE, what), -2);
        }
        due.is("k NONE, what 1", x.fact(0, NONE, 1), -2);
        due.is("fact 0 of none", x.fact(1, 0, 0), -2);
    }

    private static void forgedCalls(Due due) {
        due.of("Promise 22: forged");
        due.by("What 0: FORGED, 1: how many RULES FIT best, 2: PLACES (bits) that are FORGED in all, 10 + k: the k-th.");
        FrostReplies x = log(due, 8, 9, 0, 9, 8, 3);
        int[] answers = {1, 1, 256};
        for (int what = 0; what < 3; what++) {
            due.is("forged " + what, x.forged(0, what), answers[what]);
        }
        due.is("the first", x.forged(0, 10), 9190);
        due.by("-2: there is none such (of either), or for another what.");
        for (int what : new int[] {Due.MIN, -10, -1, 3, 4, 9, 11, 12, 7299, 7300, Due.MAX}) {
            due.is("what " + what, x.forged(0, what), -2);
        }
        for (int log : new int[] {Due.MIN, -2, -1, 1, 2, Due.MAX}) {
            due.is("log " + log, x.forged(log, 0), -2);
            due.is("log " + log + ", the first", x.forged(log, 10), -2);
        }
        due.further(x, LOG, "");
        due.is("the last of all", x.forged(1, 7299), 9999);
        due.is("behind all", x.forged(1, 7300), -2);
    }

    private static void chanceCalls(Due due) {
        due.of("Promise 23: chance");
        due.by("CHANCE of n, y, p, N, or (under) D.");
        FrostReplies x = new FrostReplies();
        due.is("N", x.chance(1, 2, 5, false), 3);
        due.is("D", x.chance(1, 2, 5, true), 4);
        due.by("NONE: other numbers.");
        for (boolean under : new boolean[] {false, true}) {
            for (int ok = 1; ok <= 9; ok++) {
                for (int n : new int[] {Due.MIN, -1, 0, 13, 14, Due.MAX}) {
                    due.is("n " + n, x.chance(n, ok, ok, under), NONE);
                }
                for (int y : new int[] {Due.MIN, -2, -1, 10, 11, Due.MAX}) {
                    due.is("y " + y, x.chance(ok, y, ok, under), NONE);
                }
                for (int p : new int[] {Due.MIN, -2, -1, 11, 12, Due.MAX}) {
                    due.is("p " + p, x.chance(ok, ok, p, under), NONE);
                }
            }
            x = new FrostReplies();
        }
        due.is("n 12", x.chance(12, 9, 10, true), 1);
        due.is("n 1, y 0, p 0", x.chance(1, 0, 0, true), 1);
    }

    private static void ageCalls(Due due) {
        due.of("Promise 31: age");
        due.by("AGE: the least, or (most) the most. NONE: there is none such.");
        FrostReplies x = log(due, 11, 9, 0, 8);
        due.is("least", x.age(0, false), 11);
        due.is("most", x.age(0, true), 17);
        for (int log : new int[] {Due.MIN, -2, -1, 1, 2, Due.MAX}) {
            due.is("log " + log, x.age(log, false), NONE);
            due.is("log " + log + ", most", x.age(log, true), NONE);
        }
    }

    private static void waitsCalls(Due due) {
        due.of("Promise 32: waits");
        due.by("WAIT of n, p, N, or (under) D.");
        FrostReplies x = new FrostReplies();
        due.is("N", x.waits(1, 4, false), 5);
        due.is("D", x.waits(1, 4, true), 2);
        due.by("NONE: other numbers.");
        for (boolean under : new boolean[] {false, true}) {
            for (int n : new int[] {Due.MIN, -1, 0, 13, 14, Due.MAX}) {
                due.is("n " + n, x.waits(n, 5, under), NONE);
            }
            for (int p : new int[] {Due.MIN, -1, 0, 11, 12, Due.MAX}) {
                due.is("p " + p, x.waits(5, p, under), NONE);
            }
        }
    }
}
