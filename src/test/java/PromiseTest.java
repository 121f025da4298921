/** Each promise of the document by answers worked out by hand: ordinary inputs, edges, wrong inputs. */
public final class PromiseTest {
    private static final int NONE = FrostReplies.NONE;
    private static final int MAX = Integer.MAX_VALUE;
    private static final int MIN = Integer.MIN_VALUE;

    private static int wrong;
    private static int promise;

    public static void main(String[] args) {
        newObject();
        feeding();
        ending();
        texts();
        faults();
        faultsByOrder();
        hills();
        deeds();
        stops();
        states();
        statesOfFollows();
        lines();
        saidAndOdds();
        sures();
        readings();
        slips();
        questions();
        sentences();
        twice();
        ghosts();
        facts();
        forgeries();
        chances();
        draws();
        nexts();
        echoes();
        alikes();
        trees();
        chains();
        afters();
        ages();
        waits();
        counts();
        images();
        if (wrong > 0) {
            System.out.println(wrong + " answers are not as due");
            System.exit(1);
        }
        System.out.println("PromiseTest: all answers are as due");
    }

    private static void due(String call, long got, long want) {
        if (got != want) {
            wrong++;
            System.out.println("promise " + promise + ": " + call + " answered " + got + ", due is " + want);
        }
    }

    private static void due(String call, boolean got, boolean want) {
        due(call, got ? 1 : 0, want ? 1 : 0);
    }

    private static FrostReplies hillOf(String text) {
        FrostReplies x = new FrostReplies();
        due("hill " + text, Say.tell(x, Say.HILL, NONE, text), 0);
        return x;
    }

    private static FrostReplies hillAnd(String hill, int sort, String text) {
        FrostReplies x = hillOf(hill);
        due("text " + text, Say.tell(x, sort, NONE, text), 0);
        return x;
    }

    private static void fault(int sort, String text, int fault, int place) {
        FrostReplies x = new FrostReplies();
        due("text " + text, Say.tell(x, sort, NONE, text), fault == 0 ? 0 : NONE);
        due("fault of " + text, x.fault(0), fault);
        due("place of " + text, x.fault(1), place);
        due("count after " + text, x.count(sort), fault == 0 ? 1 : 0);
    }

    private static void newObject() {
        promise = 1;
        FrostReplies x = new FrostReplies();
        for (int sort = 0; sort < 4; sort++) {
            due("count " + sort, x.count(sort), 0);
        }
        for (int k = 0; k < 3; k++) {
            due("again " + k, x.again(k), false);
        }
        due("fault", x.fault(0), 0);
        due("place", x.fault(1), NONE);
        due("end 0", x.end(0), 0);
        due("end 1", x.end(1), NONE);
        due("hill", x.hill(0, 0), NONE);
        due("NONE", FrostReplies.NONE, -1);
    }

    private static void feeding() {
        promise = 2;
        FrostReplies x = new FrostReplies();
        // "line", " abc", "def;", and a byte above 127 that no text goes on with
        due("feed", x.feed(0x6c696e65, 0x20616263, 0x6465663b, 0xff000000, 0), 20);
        due("text", x.text(Say.LINES, NONE), NONE);
        due("place of a high byte", x.fault(1), 12);
        for (int i = 1; i <= 30; i++) {
            due("feed " + i, x.feed(0x20202020, 0x20202020, 0x20202020, 0x20202020, 0x20202020), 20 * i);
        }
        due("feed too much", x.feed(1, 1, 1, 1, 1), NONE);
        due("still blanks alone", x.text(Say.LINES, NONE), 0);
        x.feed(0, 0, 0, 0, 0);
        x.end(1);
        for (int i = 1; i <= 28; i++) {
            x.feed(0, 0, 0, 0, 0);
        }
        due("up to 581", x.feed(0, 0, 0, 0, 0), 581);
        due("601 are too many", x.feed(0, 0, 0, 0, 0), NONE);
        due("all are there", x.end(581), 581);
        due("no more", x.end(582), NONE);
        due("580", x.end(580), 580);
        due("600", x.feed(0, 0, 0, 0, 0), 600);
    }

    private static void ending() {
        promise = 3;
        FrostReplies x = new FrostReplies();
        Say.tape(x, "line a;line b;line c;");
        due("below 0", x.end(-1), NONE);
        due("least", x.end(MIN), NONE);
        due("too many", x.end(22), NONE);
        due("most", x.end(MAX), NONE);
        due("as many", x.end(21), 21);
        due("two lines", x.end(14), 14);
        due("gone", x.end(15), NONE);
        due("text", x.text(Say.LINES, NONE), 0);
        due("two", x.line(0, NONE, 0), 2);
        due("the tape is empty", x.end(1), NONE);
        cut("line abcd;", 7, Say.LINES, 7);
        cut("lines", 4, Say.LINES, 4);
        cut("line abc ;", 8, Say.LINES, 8);
        cut("depth 1 234;", 10, Say.LOG, 10);
        cut("depth 1 2;", 9, Say.LOG, 9);
        cut("depth 12;", 7, Say.LOG, 7);
    }

    /** What is cut off belongs to no token: no text goes on with its end. */
    private static void cut(String text, int n, int sort, int place) {
        FrostReplies x = new FrostReplies();
        Say.tape(x, text);
        due("cut at " + n, x.end(n), n);
        due("cut: " + text, x.text(sort, NONE), NONE);
        due("its fault", x.fault(0), 1);
        due("its place", x.fault(1), place);
    }

    private static void texts() {
        promise = 4;
        FrostReplies x = new FrostReplies();
        due("no place", x.text(0, 0), -2);
        due("first", Say.tell(x, 0, NONE, "word a 1;"), 0);
        due("in the place of none", Say.tell(x, 0, 1, "word b 1;"), -2);
        due("the tape is empty then", x.feed(0, 0, 0, 0, 0), 20);
        due("a second", Say.tell(x, 0, NONE, "word b 1;"), 1);
        due("b", x.hill(1, 100), 1);
        due("a third", Say.tell(x, 0, NONE, "word c 1;"), -2);
        due("no fault then", x.fault(0), 0);
        due("empty behind a third", x.end(1), NONE);
        due("a stays", x.hill(0, 100), 0);
        due("in the place of 0", Say.tell(x, 0, 0, "word c 1;"), 0);
        due("c", x.hill(0, 100), 2);
        due("b stays", x.hill(1, 100), 1);
        due("still two", x.count(0), 2);
        due("fault", Say.tell(x, 0, 0, "word c;"), NONE);
        due("fault 1", x.fault(0), 1);
        due("it stays", x.hill(0, 100), 2);
        due("the tape is empty", x.end(1), NONE);
        due("at -2", Say.tell(x, 0, -2, "word d 1;"), -2);
        due("no text was read", x.fault(0), 0);
        due("no place", x.fault(1), NONE);
        due("at 2", x.text(0, 2), -2);
        due("sort 4", Say.tell(x, 4, NONE, "line a;"), -2);
        due("empty behind no sort", x.end(1), NONE);
        Say.tell(x, 0, 0, "word 1;");
        due("a fault", x.fault(1), 5);
        due("sort 5", Say.tell(x, 5, 0, "word d 1;"), -2);
        due("the fault is gone", x.fault(0), 0);
        due("its place too", x.fault(1), NONE);
        due("sort -1", x.text(-1, NONE), -2);
        due("sort least", x.text(MIN, 0), -2);
        due("an empty text", Say.tell(x, 1, NONE, ""), 0);
        due("an empty text in its place", x.text(1, 0), 0);
        due("a second", x.text(1, NONE), 1);
        due("no deeds", x.deed(1, NONE, 0), 0);
        due("lines", Say.tell(x, 2, NONE, " \n line\nabcdef ;line a ; "), 0);
        due("log", Say.tell(x, 3, NONE, "depth11 9;depth 0 0;"), 0);
        due("11", x.fact(0, 0, 0), 11);
    }

    private static void faults() {
        promise = 5;
        FrostReplies x = new FrostReplies();
        due("what 2", x.fault(2), NONE);
        due("what -1", x.fault(-1), NONE);
        fault(0, "", 0, NONE);
        fault(0, " \n ", 0, NONE);
        fault(0, "Word a 1;", 1, 0);
        fault(0, "\tword a 1;", 1, 0);
        fault(0, "  words a 1;", 1, 2);
        fault(0, "wor", 1, 0);
        fault(0, "worda 1;", 1, 0);
        fault(0, "word a1;", 0, NONE);
        fault(0, "word a", 1, 6);
        fault(0, "word a ", 1, 7);
        fault(0, "word a 1", 1, 8);
        fault(0, "word a 1;;", 1, 9);
        fault(0, "word a 001;", 1, 7);
        fault(0, "word a 1 2;", 1, 9);
        fault(0, "word 1 a;", 1, 5);
        fault(0, "word a b;", 1, 7);
        fault(0, "word a 1;frost 0 a;", 1, 9);
        fault(0, "stones 2 2;", 1, 9);
        fault(0, "word word 1;", 2, 5);
        fault(0, "word abcdefa 1;", 2, 5);
        fault(0, "word abcdef 99;", 0, NONE);
        fault(0, "word a 0;", 0, NONE);
        fault(0, "stones 0;", 2, 7);
        fault(0, "stones 5;", 2, 7);
        fault(0, "stones 04;", 0, NONE);
        fault(0, "follows 10 0;", 2, 8);
        fault(0, "follows 0 10;", 2, 10);
        fault(0, "asks 6 0;", 2, 5);
        fault(0, "asks 0 10;", 2, 7);
        fault(1, "word a 1;", 1, 0);
        fault(1, "frost 3 a;forge 0 f;moss 3;chip 3;split 3;", 0, NONE);
        fault(1, "frost 4 a;", 2, 6);
        fault(1, "forge 0 g;", 2, 8);
        fault(1, "forge 0 aa;", 2, 8);
        fault(1, "moss 4;", 2, 5);
        fault(1, "moss 0 a;", 1, 7);
        fault(1, "chip 99;", 2, 5);
        fault(1, "split 4;", 2, 6);
        fault(1, "frost a 0;", 1, 6);
        fault(2, "line abcdefabcdef;", 0, NONE);
        fault(2, "line abcdefabcdefa;", 2, 5);
        fault(2, "line ag;", 2, 5);
        fault(2, "line;", 1, 4);
        fault(3, "depth 11 9;", 0, NONE);
        fault(3, "depth 12 9;", 2, 6);
        fault(3, "depth 11 10;", 2, 9);
        fault(3, "depth 1 1#", 1, 9);
    }

    private static void faultsByOrder() {
        promise = 5;
        fault(0, "word g 1;stones 9;word a", 1, 24);
        fault(0, "stones 9;word g 1;", 2, 7);
        String ten = "word a 1;word b 1;word c 1;word d 1;word e 1;word f 1;word aa 1;word ab 1;word ac 1;word ad 1;";
        fault(0, ten, 0, NONE);
        fault(0, ten + "word ae 1;", 3, ten.length());
        fault(0, ten + "word g 1;stones 0;", 3, ten.length());
        fault(0, "stones 0;" + ten + "word ae 1;", 2, 7);
        // a line with a wrong ROW tells its WORD all the same
        fault(0, "word aaaaaaa 1;" + ten, 2, 5);
        String forty = Say.repeat("chip 0;", 40);
        fault(1, forty, 0, NONE);
        fault(1, forty + "chip 0;", 3, 280);
        fault(1, forty + "moss 9;", 3, 280);
        fault(2, Say.repeat("line a;", 6), 0, NONE);
        fault(2, Say.repeat("line a;", 7), 3, 42);
        fault(3, Say.repeat("depth 0 0;", 8), 0, NONE);
        fault(3, Say.repeat("depth 0 0;", 9), 3, 80);
        fault(0, "follows 0 1;word a 1;", 4, 21);
        fault(0, "follows 1 0;word a 1;", 4, 21);
        fault(0, "asks 0 1;word a 1; ", 4, 19);
        fault(0, "asks 5 0;follows 0 0;word a 1;", 0, NONE);
        fault(0, "word ab 1;word b 1;word ab 2;", 5, 29);
        fault(0, "word a 1;word a 1;asks 0 2;", 4, 27);
        fault(0, "word a 1;word a 1;stones 5;", 2, 25);
        FrostReplies x = new FrostReplies();
        Say.tell(x, 0, NONE, "word g 1;");
        due("a fault", x.fault(0), 2);
        Say.tell(x, 0, NONE, "word a 1;");
        due("none of the latest", x.fault(0), 0);
        due("no place", x.fault(1), NONE);
    }

    private static void hills() {
        promise = 6;
        FrostReplies x = hillOf("stones 4;word abc 7;word f 0;asks 5 1;asks 5 0;asks 0 1;stones 3;");
        due("stones", x.hill(0, 0), 3);
        due("words", x.hill(0, 1), 2);
        due("what 2", x.hill(0, 2), NONE);
        due("letters of 0", x.hill(0, 10), 3);
        due("letters of 1", x.hill(0, 11), 1);
        due("letters of 2", x.hill(0, 12), NONE);
        due("often of 0", x.hill(0, 20), 7);
        due("often of 1", x.hill(0, 21), 0);
        due("often of 9", x.hill(0, 29), NONE);
        due("any behind any", x.hill(0, 31), 3);
        due("behind none", x.hill(0, 32), NONE);
        due("question 0", x.hill(0, 40), 2);
        due("question 1", x.hill(0, 41), 0);
        due("question 5", x.hill(0, 45), 3);
        due("question 6", x.hill(0, 46), NONE);
        due("a", x.hill(0, 100), 0);
        due("c", x.hill(0, 102), 2);
        due("no fourth", x.hill(0, 103), NONE);
        due("f", x.hill(0, 106), 5);
        due("no second", x.hill(0, 107), NONE);
        due("no third word", x.hill(0, 112), NONE);
        due("99", x.hill(0, 99), NONE);
        due("-1", x.hill(0, -1), NONE);
        due("least", x.hill(0, MIN), NONE);
        due("most", x.hill(0, MAX), NONE);
        due("no hill", x.hill(1, 0), NONE);
        due("no hill", x.hill(-1, 0), NONE);
        due("told", Say.tell(x, 0, NONE, "word a 1;word b 2;word c 3;follows 0 2;follows 0 2;follows 0 0;follows 2 1;"), 1);
        due("stones at first", x.hill(1, 0), 2);
        due("behind 0", x.hill(1, 30), 5);
        due("behind 1", x.hill(1, 31), 0);
        due("behind 2", x.hill(1, 32), 2);
    }

    private static void deeds() {
        promise = 7;
        FrostReplies x = new FrostReplies();
        due("none", x.deed(0, NONE, 0), -2);
        Say.tell(x, 1, NONE, "frost 0 a;forge 1 f;moss 2;chip 3;split 0;");
        due("how many", x.deed(0, NONE, 0), 5);
        due("k NONE, what 1", x.deed(0, NONE, 1), -2);
        for (int k = 0; k < 5; k++) {
            due("kind " + k, x.deed(0, k, 0), k);
            due("stone " + k, x.deed(0, k, 1), k % 4);
            due("letter " + k, x.deed(0, k, 2), k == 0 ? 0 : k == 1 ? 5 : NONE);
        }
        due("what 3", x.deed(0, 0, 3), -2);
        due("what -1", x.deed(0, 0, -1), -2);
        due("deed 5", x.deed(0, 5, 0), -2);
        due("deed -2", x.deed(0, -2, 0), -2);
        due("century 1", x.deed(1, 0, 0), -2);
        due("century -1", x.deed(-1, NONE, 0), -2);
    }

    private static int stopOf(String hill, String century) {
        return hillAnd(hill, Say.CENTURY, century).stop(0, 0);
    }

    private static void stops() {
        promise = 8;
        String hill = "word ab 1;word b 1;";
        due("no deeds", stopOf(hill, ""), 0);
        due("all", stopOf(hill, "frost 0 a;frost 0 b;moss 0;"), 3);
        due("no word fits", stopOf(hill, "frost 0 a;frost 0 a;moss 0;"), 1);
        due("no word begins so", stopOf(hill, "frost 0 c;"), 0);
        due("no such stone", stopOf(hill, "frost 1 a;frost 2 a;"), 1);
        due("forge on no stone", stopOf(hill, "forge 2 a;"), 0);
        due("split on no stone", stopOf(hill, "split 3;"), 0);
        due("moss on a part", stopOf(hill, "frost 0 a;moss 0;"), 1);
        due("moss on nothing", stopOf(hill, "moss 0;"), 0);
        due("moss twice", stopOf(hill, "frost 0 b;moss 0;moss 0;"), 2);
        due("moss on forged ones", stopOf(hill, "forge 0 a;forge 0 b;moss 0;"), 3);
        due("forge whatever it is", stopOf(hill, "forge 0 e;forge 0 f;"), 2);
        due("frost behind these", stopOf(hill, "forge 0 e;frost 0 b;"), 1);
        due("chip nothing", stopOf(hill, "chip 0;"), 0);
        due("chip behind a pause", stopOf(hill, "frost 0 b;moss 0;chip 0;"), 2);
        due("chip and go on", stopOf(hill, "forge 0 e;chip 0;frost 0 b;moss 0;"), 4);
        due("frost on a split one", stopOf(hill, "split 0;frost 1 a;frost 0 a;"), 2);
        due("forge on a split one", stopOf(hill, "split 0;forge 0 a;"), 1);
        due("moss on a split one", stopOf(hill, "frost 0 b;split 0;moss 0;"), 2);
        due("chip on a split one", stopOf(hill, "frost 0 b;split 0;chip 0;"), 2);
        due("split a split one", stopOf(hill, "split 0;split 0;"), 1);
        due("12 have room", stopOf(hill, Say.repeat("forge 0 a;", 12)), 12);
        due("13 have none", stopOf(hill, Say.repeat("forge 0 a;", 13)), 12);
        due("frost has no room", stopOf(hill, Say.repeat("frost 0 b;moss 0;", 12) + "frost 0 b;"), 24);
        due("no words", stopOf("", "forge 0 a;frost 1 a;"), 1);
        due("follows", stopOf(hill + "follows 0 1;", "frost 0 a;frost 0 b;moss 0;frost 0 b;moss 0;frost 0 b;"), 5);
        due("follows at moss", stopOf(hill + "follows 1 0;", "frost 0 b;moss 0;forge 0 b;moss 0;"), 3);
        due("of this stone alone", stopOf(hill + "follows 1 0;", "frost 0 b;moss 0;frost 1 b;moss 1;frost 1 b;"), 4);
        FrostReplies x = hillOf(hill);
        due("no century", x.stop(0, 0), NONE);
        due("no hill", x.stop(1, 0), NONE);
        due("none", x.stop(-1, -1), NONE);
    }

    private static void states() {
        promise = 9;
        FrostReplies x = hillAnd("word abc 1;word ab 1;word ca 1;stones 3;", Say.CENTURY,
            "frost 0 a;frost 0 b;moss 0;forge 0 c;frost 0 a;moss 0;forge 2 f;split 1;chip 0;frost 0 a;");
        due("stop", x.stop(0, 0), 8);
        due("nothing split", x.state(0, 0, 7, 0), 0);
        due("1 split", x.state(0, 0, 8, 0), 2);
        due("beyond stop", x.state(0, 0, 9, 0), -2);
        due("n -1", x.state(0, 0, -1, 0), -2);
        due("n most", x.state(0, 0, MAX, 0), -2);
        due("n least", x.state(0, 0, MIN, 0), -2);
        due("letters", x.state(0, 0, 8, 10), 4);
        due("letters of 1", x.state(0, 0, 8, 11), 0);
        due("letters of 2", x.state(0, 0, 8, 12), 1);
        due("no stone 3", x.state(0, 0, 8, 13), -2);
        due("open", x.state(0, 0, 5, 20), 2);
        due("none open", x.state(0, 0, 6, 20), 0);
        due("open of 2", x.state(0, 0, 8, 22), 1);
        due("told at 2", x.state(0, 0, 2, 30), 0);
        due("told at 3", x.state(0, 0, 3, 30), 1);
        due("told at 6", x.state(0, 0, 6, 30), 2);
        due("none last", x.state(0, 0, 2, 40), NONE);
        due("last at 3", x.state(0, 0, 3, 40), 1);
        due("last at 6", x.state(0, 0, 6, 40), 2);
        due("all fit", x.state(0, 0, 0, 50), 7);
        due("fit ab", x.state(0, 0, 2, 50), 3);
        due("fit c", x.state(0, 0, 4, 50), 4);
        due("fit f", x.state(0, 0, 7, 52), 0);
        due("forged", x.state(0, 0, 8, 60), 1);
        due("forged of 1", x.state(0, 0, 8, 61), 0);
        due("forged of 2", x.state(0, 0, 8, 62), 1);
        due("no what 70", x.state(0, 0, 8, 70), -2);
        due("no what 1", x.state(0, 0, 8, 1), -2);
        due("no what 9", x.state(0, 0, 8, 9), -2);
        due("no what 53", x.state(0, 0, 8, 53), -2);
        due("no what -1", x.state(0, 0, 8, -1), -2);
        int[] letters = {0, 1, 2, 0};
        // a: 9, 8 by b, 7 by the second a; the forged c leaves them, and has 5, 4 by it
        int[] depths = {7, 8, 4, 9};
        for (int k = 0; k < 4; k++) {
            due("letter " + k, x.state(0, 0, 8, 100 + k), letters[k]);
            due("depth " + k, x.state(0, 0, 8, 200 + k), depths[k]);
        }
        due("no letter 4", x.state(0, 0, 8, 104), -2);
        due("no depth 4", x.state(0, 0, 8, 204), -2);
        due("letter of 2", x.state(0, 0, 8, 124), 5);
        due("depth of 2", x.state(0, 0, 8, 224), 5);
        due("no letter of 1", x.state(0, 0, 8, 112), -2);
        due("148", x.state(0, 0, 8, 148), -2);
        due("248", x.state(0, 0, 8, 248), -2);
        due("199", x.state(0, 0, 8, 199), -2);
        due("no hill", x.state(1, 0, 0, 0), -2);
        due("no century", x.state(0, 1, 0, 0), -2);
        x = hillAnd("word b 1;stones 1;", Say.CENTURY, Say.repeat("frost 0 b;moss 0;", 12));
        due("0 at least", x.state(0, 0, 24, 200), 0);
        due("0 by nine", x.state(0, 0, 24, 202), 0);
        due("1 by eight", x.state(0, 0, 24, 203), 1);
        due("twelve told", x.state(0, 0, 24, 30), 12);
    }

    private static void statesOfFollows() {
        promise = 9;
        FrostReplies x = hillAnd("word a 1;word ab 1;word b 1;follows 0 2;follows 2 0;follows 2 1;", Say.CENTURY,
            "frost 0 a;moss 0;frost 0 b;moss 0;frost 0 a;chip 0;forge 0 d;chip 0;");
        due("any first", x.state(0, 0, 0, 50), 7);
        due("behind 0", x.state(0, 0, 2, 50), 4);
        due("behind 2", x.state(0, 0, 4, 50), 3);
        due("a behind 2", x.state(0, 0, 5, 50), 3);
        due("a forged one", x.state(0, 0, 7, 60), 1);
        due("and away", x.state(0, 0, 8, 60), 0);
        due("open then", x.state(0, 0, 8, 20), 0);
    }

    private static void lines() {
        promise = 10;
        FrostReplies x = new FrostReplies();
        due("none", x.line(0, NONE, 0), -2);
        Say.tell(x, 2, NONE, "line abc;line f;");
        due("how many", x.line(0, NONE, 0), 2);
        due("k NONE, i NONE", x.line(0, NONE, NONE), -2);
        due("k NONE, i 1", x.line(0, NONE, 1), -2);
        due("letters of 0", x.line(0, 0, NONE), 3);
        due("letters of 1", x.line(0, 1, NONE), 1);
        due("letter 2", x.line(0, 0, 2), 2);
        due("letter 3", x.line(0, 0, 3), -2);
        due("letter -2", x.line(0, 0, -2), -2);
        due("f", x.line(0, 1, 0), 5);
        due("line 2", x.line(0, 2, 0), -2);
        due("line -2", x.line(0, -2, 0), -2);
        due("lines 1", x.line(1, 0, 0), -2);
        due("lines -1", x.line(-1, NONE, 0), -2);
        Say.tell(x, 2, NONE, "");
        due("no lines", x.line(1, NONE, 0), 0);
    }

    private static void saidAndOdds() {
        FrostReplies x = hillAnd("word ab 3;word abc 6;word abd 6;word b 0;word bc 0;", Say.LINES,
            "line a;line abc;line b;line c;line abcd;");
        promise = 11;
        due("said a", x.said(0, 0, 0, 0), 7);
        due("likely a", x.said(0, 0, 0, 1), 1);
        due("said abc", x.said(0, 0, 1, 0), 2);
        due("said b", x.said(0, 0, 2, 0), 24);
        due("likely b", x.said(0, 0, 2, 1), 3);
        due("said c", x.said(0, 0, 3, 0), 0);
        due("likely c", x.said(0, 0, 3, 1), NONE);
        due("said abcd", x.said(0, 0, 4, 0), 0);
        due("what 2", x.said(0, 0, 0, 2), -2);
        due("what -1", x.said(0, 0, 0, -1), -2);
        due("line 5", x.said(0, 0, 5, 0), -2);
        due("line -1", x.said(0, 0, -1, 0), -2);
        due("lines 1", x.said(0, 1, 0, 0), -2);
        due("hill 1", x.said(1, 0, 0, 0), -2);
        promise = 12;
        due("3 of 15", x.odds(0, 0, 0, 0, false), 1);
        due("3 of 15", x.odds(0, 0, 0, 0, true), 5);
        due("6 of 15", x.odds(0, 0, 0, 2, false), 2);
        due("6 of 15", x.odds(0, 0, 0, 2, true), 5);
        due("not said", x.odds(0, 0, 0, 3, false), 0);
        due("not said", x.odds(0, 0, 0, 3, true), 1);
        due("alone", x.odds(0, 0, 1, 1, false), 1);
        due("alone", x.odds(0, 0, 1, 1, true), 1);
        due("never said", x.odds(0, 0, 2, 3, false), NONE);
        due("none said", x.odds(0, 0, 3, 0, true), NONE);
        due("word 5", x.odds(0, 0, 0, 5, false), NONE);
        due("word -1", x.odds(0, 0, 0, -1, false), NONE);
        due("line 5", x.odds(0, 0, 5, 0, false), NONE);
        due("lines -1", x.odds(0, -1, 0, 0, false), NONE);
        due("hill 2", x.odds(2, 0, 0, 0, false), NONE);
    }

    private static void sures() {
        promise = 13;
        // behind a: ab is whole by 1 more (3 times), abc is told by 2 (6 times), abdd by 3, as abd may be said too: 33 of 15
        FrostReplies x = hillAnd("word ab 3;word abc 6;word abdd 6;word abd 0;word b 0;", Say.LINES,
            "line a;line abc;line b;line c;line ab;line abd;");
        due("a", x.sure(0, 0, 0, false), 11);
        due("a", x.sure(0, 0, 0, true), 5);
        due("abc", x.sure(0, 0, 1, false), 0);
        due("abc", x.sure(0, 0, 1, true), 1);
        due("never said", x.sure(0, 0, 2, false), NONE);
        due("not said", x.sure(0, 0, 3, true), NONE);
        due("ab", x.sure(0, 0, 4, false), 6);
        due("ab", x.sure(0, 0, 4, true), 5);
        due("abd", x.sure(0, 0, 5, false), 1);
        due("abd", x.sure(0, 0, 5, true), 1);
        due("line 6", x.sure(0, 0, 6, true), NONE);
        due("lines 1", x.sure(0, 1, 0, true), NONE);
        due("hill 1", x.sure(1, 0, 0, true), NONE);
    }

    private static void readings() {
        promise = 14;
        FrostReplies x = hillAnd("word ab 1;word a 1;word b 1;word aba 1;", Say.LINES,
            "line ababa;line c;line aaaaaaaaaaaa;line aba;");
        // ababa: [ab|a b] [ab|a b] a: 4, and [ab|a b] aba: 2, and aba [b] a: 1
        due("ababa", x.reading(0, 0, 0, NONE), 7);
        due("first word", x.reading(0, 0, 0, 0), 0);
        due("second word", x.reading(0, 0, 0, 1), 0);
        due("third word", x.reading(0, 0, 0, 2), 1);
        due("no fourth", x.reading(0, 0, 0, 3), NONE);
        due("c", x.reading(0, 0, 1, NONE), 0);
        due("c first", x.reading(0, 0, 1, 0), NONE);
        due("twelve", x.reading(0, 0, 2, NONE), 1);
        due("the twelfth", x.reading(0, 0, 2, 11), 1);
        due("no thirteenth", x.reading(0, 0, 2, 12), NONE);
        due("most", x.reading(0, 0, 2, MAX), NONE);
        due("-2", x.reading(0, 0, 0, -2), NONE);
        due("no line", x.reading(0, 0, 4, NONE), NONE);
        due("no lines", x.reading(0, 1, 0, NONE), NONE);
        due("no hill", x.reading(1, 0, 0, NONE), NONE);
        Say.tell(x, 0, 0, "word ab 1;word a 1;word b 1;word aba 1;follows 0 3;follows 1 2;follows 2 1;");
        due("by follows", x.reading(0, 0, 0, NONE), 2);
        due("first", x.reading(0, 0, 0, 0), 0);
        due("second", x.reading(0, 0, 0, 1), 3);
        due("none behind", x.reading(0, 0, 0, 2), NONE);
        Say.tell(x, 0, NONE, "word a 1;word aa 1;word aaa 1;word aaaa 1;word aaaaa 1;word aaaaaa 1;");
        due("twelve by up to six", x.reading(1, 0, 2, NONE), 1936);
    }

    private static void slips() {
        promise = 15;
        FrostReplies x = hillAnd("word abc 1;word ac 1;word abd 1;word bcde 1;word f 1;", Say.LINES,
            "line abc;line abcdefabcdef;");
        due("0", x.slips(0, 0, 0, 0), 1);
        due("1", x.slips(0, 0, 0, 1), 7);
        due("2", x.slips(0, 0, 0, 2), 7);
        due("3", x.slips(0, 0, 0, 3), 31);
        due("far", x.slips(0, 0, 1, 3), 0);
        due("n 4", x.slips(0, 0, 0, 4), NONE);
        due("n -1", x.slips(0, 0, 0, -1), NONE);
        due("no line", x.slips(0, 0, 2, 0), NONE);
        due("no lines", x.slips(0, -1, 0, 0), NONE);
        due("no hill", x.slips(-1, 0, 0, 0), NONE);
    }

    private static void questions() {
        FrostReplies x = hillOf("word ab 1;word ac 3;word b 2;word c 0;word abc 1;asks 0 0;asks 0 1;asks 0 2;asks 1 3;"
            + "asks 2 2;asks 2 3;asks 4 4;asks 4 0;asks 5 1;");
        promise = 16;
        // ab 2, ac 2, b 1
        due("0", x.asked(0, 0, false), 5);
        due("0", x.asked(0, 0, true), 3);
        due("1: never said", x.asked(0, 1, false), NONE);
        due("2: told from one never said", x.asked(0, 2, false), 1);
        due("2", x.asked(0, 2, true), 1);
        due("3: no answers", x.asked(0, 3, true), NONE);
        due("4", x.asked(0, 4, false), 5);
        due("4", x.asked(0, 4, true), 2);
        due("5: alone", x.asked(0, 5, false), 0);
        due("5: alone", x.asked(0, 5, true), 1);
        due("6", x.asked(0, 6, false), NONE);
        due("-1", x.asked(0, -1, false), NONE);
        due("no hill", x.asked(1, 0, false), NONE);
        promise = 17;
        due("soonest", x.soonest(0), 5);
        due("no hill", x.soonest(1), NONE);
        Say.tell(x, 0, NONE, "word ab 1;word ac 1;word b 0;asks 1 0;asks 1 1;asks 3 0;asks 3 2;asks 4 1;asks 4 2;asks 0 2;");
        due("of several the least", x.soonest(1), 3);
        due("none", Say.tell(x, 0, 1, "word a 0;asks 0 0;"), 1);
        due("never said", x.soonest(1), NONE);
    }

    private static void sentences() {
        promise = 18;
        FrostReplies x = hillOf("word a 1;word b 1;word c 1;follows 0 1;follows 1 0;follows 1 2;");
        due("0", x.sentences(0, 0), 1);
        due("1", x.sentences(0, 1), 3);
        due("2", x.sentences(0, 2), 3);
        // a b a b .. or b a b a .. , and c may stand last in the place of an a
        due("3", x.sentences(0, 3), 3);
        due("6", x.sentences(0, 6), 3);
        due("7", x.sentences(0, 7), NONE);
        due("-1", x.sentences(0, -1), NONE);
        due("no hill", x.sentences(1, 0), NONE);
        Say.tell(x, 0, NONE, "word a 1;word b 1;word c 1;word d 1;word e 1;word f 1;word aa 1;word ab 1;word ac 1;word ad 1;");
        due("a million", x.sentences(1, 6), 1000000);
        Say.tell(x, 0, 1, "");
        due("of no words, none", x.sentences(1, 0), 1);
        due("of no words, one", x.sentences(1, 1), 0);
    }

    private static void twice() {
        promise = 19;
        due("a, ab, b", hillOf("word a 1;word ab 1;word b 1;").twice(0), 2);
        due("none", hillOf("word a 1;word b 1;word cd 1;").twice(0), NONE);
        due("one word", hillOf("word aa 1;").twice(0), NONE);
        due("no words", hillOf("").twice(0), NONE);
        due("lengths 2 and 3", hillOf("word aa 1;word aaa 1;").twice(0), 5);
        due("each behind itself alone", hillOf("word aa 1;word aaa 1;follows 0 0;follows 1 1;").twice(0), 6);
        due("4 and 6", hillOf("word aaaa 1;word aaaaaa 1;follows 0 0;follows 1 1;").twice(0), 12);
        due("4 and 5", hillOf("word aaaa 1;word aaaaa 1;follows 0 0;follows 1 1;").twice(0), 20);
        due("5 and 6 are 30", hillOf("word aaaaa 1;word aaaaaa 1;follows 0 0;follows 1 1;").twice(0), NONE);
        due("never behind", hillOf("word a 1;word ab 1;word b 1;follows 1 1;").twice(0), NONE);
        due("a chain of rests", hillOf("word ab 1;word abb 1;word bab 1;word bb 1;").twice(0), 5);
        due("first words alone count", hillOf("word c 1;word a 1;word ab 1;word b 1;follows 0 1;follows 0 2;follows 1 3;").twice(0), 2);
        due("no hill", new FrostReplies().twice(0), NONE);
        due("5 3 and 3 5", hillOf("word aaa 1;word aaaaa 1;follows 0 1;follows 1 0;").twice(0), 8);
        due("6 6 6 6 and 5 5 5 5 4", hillOf("word aaaaaa 1;word aaaaa 1;word aaaa 1;follows 0 0;follows 1 1;follows 1 2;").twice(0), 24);
        due("5 5 5 5 5 and 6 6 6 6 1 are 25", hillOf("word aaaaaa 1;word aaaaa 1;word a 1;follows 0 0;follows 0 2;follows 1 1;").twice(0), NONE);
        due("no hill -1", hillOf("").twice(-1), NONE);
    }

    private static void ghosts() {
        promise = 20;
        FrostReplies x = hillOf("word ab 1;");
        due("the second makes it whole", x.ghost(0, false), 1);
        due("by a", x.ghost(0, true), 0);
        due("three letters", hillOf("word abc 1;").ghost(0, false), 0);
        due("he can't win", hillOf("word abc 1;").ghost(0, true), NONE);
        due("by the least of two", hillOf("word abc 1;word fa 1;word ef 1;").ghost(0, true), 4);
        due("a word within ends it", hillOf("word a 1;word ab 1;").ghost(0, false), 0);
        due("the second turns aside", hillOf("word abcd 1;word acd 1;").ghost(0, false), 0);
        due("he does not", hillOf("word abcd 1;word ac 1;").ghost(0, false), 1);
        due("a six", hillOf("word abcdef 1;").ghost(0, false), 1);
        due("no words", hillOf("").ghost(0, false), 0);
        due("no words first", hillOf("").ghost(0, true), NONE);
        due("no hill", x.ghost(1, false), -2);
        due("no hill first", x.ghost(-1, true), -2);
    }

    private static void facts() {
        promise = 21;
        FrostReplies x = new FrostReplies();
        due("none", x.fact(0, NONE, 0), -2);
        Say.tell(x, 3, NONE, "depth 11 9;depth 3 0;depth 3 1;");
        due("how many", x.fact(0, NONE, 0), 3);
        due("k NONE, what 1", x.fact(0, NONE, 1), -2);
        due("place", x.fact(0, 0, 0), 11);
        due("depth", x.fact(0, 0, 1), 9);
        due("place 2", x.fact(0, 2, 0), 3);
        due("depth 2", x.fact(0, 2, 1), 1);
        due("what 2", x.fact(0, 0, 2), -2);
        due("what -1", x.fact(0, 0, -1), -2);
        due("fact 3", x.fact(0, 3, 0), -2);
        due("fact -2", x.fact(0, -2, 0), -2);
        due("log 1", x.fact(1, 0, 0), -2);
        due("log -1", x.fact(-1, 0, 0), -2);
    }

    private static FrostReplies logOf(String text) {
        FrostReplies x = new FrostReplies();
        due("log " + text, Say.tell(x, Say.LOG, NONE, text), 0);
        return x;
    }

    private static void forgeries() {
        promise = 22;
        FrostReplies x = logOf("");
        due("nothing forged", x.forged(0, 0), 0);
        due("all rules", x.forged(0, 1), 7290);
        due("no places", x.forged(0, 2), 0);
        due("the first", x.forged(0, 10), 1110);
        due("the tenth", x.forged(0, 19), 1119);
        due("the eleventh", x.forged(0, 20), 1120);
        due("the last", x.forged(0, 7299), 9999);
        due("no more", x.forged(0, 7300), -2);
        due("what 3", x.forged(0, 3), -2);
        due("what 9", x.forged(0, 9), -2);
        due("what -1", x.forged(0, -1), -2);
        due("least", x.forged(0, MIN), -2);
        due("no log", x.forged(1, 0), -2);
        x = logOf("depth 11 9;depth 1 9;");
        due("9 and 9 in ten frosts: can't be", x.forged(0, 0), 1);
        due("it is place 1 by all", x.forged(0, 2), 2);
        x = logOf("depth 2 9;depth 1 8;depth 0 7;depth 1 3;depth 1 4;");
        due("two forged", x.forged(0, 0), 2);
        due("both of place 1", x.forged(0, 2), 2);
        // s 9, t below w, g = w as 1 frost is 1 less, or g above w, cut: ((g + t) / w = 1, (2 g + t) / w = 2)
        due("the first", x.forged(0, 10), 9110);
        due("how many", x.forged(0, 1), rulesOfOneLess());
        x = logOf("depth 0 5;");
        due("5 alone", x.forged(0, 0), 0);
        due("first is 5", x.forged(0, 10), 5110);
        x = logOf("depth 0 5;depth 0 5;depth 0 6;depth 0 4;");
        due("the most are so", x.forged(0, 0), 2);
        due("the place all the same", x.forged(0, 2), 1);
    }

    private static int rulesOfOneLess() {
        int sum = 0;
        for (int g = 1; g <= 9; g++) {
            for (int w = 1; w <= 9; w++) {
                for (int t = 0; t <= 9; t++) {
                    sum += t / w == 0 && (g + t) / w == 1 && (2 * g + t) / w == 2 ? 1 : 0;
                }
            }
        }
        return sum;
    }

    private static void chances() {
        promise = 23;
        FrostReplies x = new FrostReplies();
        due("1 of 1 by 5", x.chance(1, 1, 5, false), 1);
        due("1 of 1 by 5", x.chance(1, 1, 5, true), 2);
        due("1 of 2 by 1: 19", x.chance(1, 2, 1, false), 19);
        due("of 100", x.chance(1, 2, 1, true), 100);
        due("2 of 3 by 2: 104 of 1000", x.chance(2, 3, 2, false), 13);
        due("in least terms", x.chance(2, 3, 2, true), 125);
        due("9 of 9 by 9", x.chance(9, 9, 9, false), 387420489);
        due("of 10^9", x.chance(9, 9, 9, true), 1000000000);
        due("too many", x.chance(4, 3, 9, false), 0);
        due("of 1", x.chance(4, 3, 9, true), 1);
        due("no years", x.chance(1, 0, 10, false), 0);
        due("never", x.chance(1, 9, 0, false), 0);
        due("always", x.chance(9, 9, 10, false), 1);
        due("always", x.chance(9, 9, 10, true), 1);
        due("n 12", x.chance(12, 9, 10, true), 1);
        due("n 0", x.chance(0, 1, 1, false), NONE);
        due("n 13", x.chance(13, 1, 1, false), NONE);
        due("y -1", x.chance(1, -1, 1, false), NONE);
        due("y 10", x.chance(1, 10, 1, false), NONE);
        due("p -1", x.chance(1, 1, -1, false), NONE);
        due("p 11", x.chance(1, 1, 11, true), NONE);
    }

    private static void draws() {
        promise = 24;
        FrostReplies x = hillOf("word a 1;word bc 1;word d 1;word e 1;word f 1;word c 1;stones 1;");
        due("n 0", x.drawn(0, 1, 0, 10), 0);
        due("all fit", x.drawn(0, 1, 0, 50), 63);
        due("what 11", x.drawn(0, 1, 0, 11), -2);
        due("what 1", x.drawn(0, 1, 0, 1), -2);
        due("n -1", x.drawn(0, 1, -1, 10), -2);
        due("n 61", x.drawn(0, 1, 61, 10), -2);
        due("n 60", x.drawn(0, 1, 60, 0), 0);
        due("no hill", x.drawn(1, 1, 0, 0), -2);
        int letters = 0;
        for (int seed = -50; seed < 50; seed++) {
            letters += drawOnce(x, seed);
        }
        due("some letters came", letters > 20, true);
    }

    /** The first draw by hand: a kind, a STONE (the one), a LETTER. */
    private static int drawOnce(FrostReplies x, int seed) {
        long mask = 0xffffffffL;
        long a = (seed & mask) * 1103515245L + 12345 & mask;
        long b = a * 1103515245L + 12345 & mask;
        long c = b * 1103515245L + 12345 & mask;
        long kind = (a >> 16) % 8;
        long letter = (c >> 16) % 6;
        boolean comes = kind < 5 || kind == 6;
        due("letters by " + seed, x.drawn(0, seed, 1, 10), comes ? 1 : 0);
        due("letter by " + seed, x.drawn(0, seed, 1, 100), comes ? letter : -2);
        due("depth by " + seed, x.drawn(0, seed, 1, 200), comes ? kind == 6 ? 5 : 9 : -2);
        due("forged by " + seed, x.drawn(0, seed, 1, 60), kind == 6 ? 1 : 0);
        return comes ? 1 : 0;
    }

    private static void nexts() {
        promise = 25;
        FrostReplies x = hillAnd("word ab 1;word abc 4;word abd 2;word abdf 2;word b 9;", Say.LINES,
            "line ab;line abdf;line c;line a;line abab;line fffffffffff;");
        due("c, d", x.next(0, 0, 0, 0), 12);
        due("of several the least", x.next(0, 0, 0, 1), 2);
        due("none behind", x.next(0, 0, 1, 0), 0);
        due("none keenest", x.next(0, 0, 1, 1), NONE);
        due("not said", x.next(0, 0, 2, 0), 0);
        due("not said", x.next(0, 0, 2, 1), NONE);
        due("b", x.next(0, 0, 3, 0), 2);
        due("what 3", x.next(0, 0, 0, 3), -2);
        due("what -1", x.next(0, 0, 0, -1), -2);
        due("no line", x.next(0, 0, 6, 0), -2);
        due("no lines", x.next(0, 1, 0, 0), -2);
        due("no hill", x.next(1, 0, 0, 0), -2);
        due("mended already", x.next(0, 0, 4, 2), 0);
        due("c to b", x.next(0, 0, 2, 2), 1);
        due("eleven f", x.next(0, 0, 5, 2), 9);
        Say.tell(x, 0, 0, "word aa 1;word ab 1;word bb 0;follows 0 1;");
        due("0 1 alone", x.next(0, 0, 4, 2), 1);
        due("odd ones never", x.next(0, 0, 5, 2), NONE);
        due("too long by follows", Say.tell(x, 2, 0, "line abbbab;line b;"), 0);
        due("three by follows", x.next(0, 0, 0, 2), NONE);
        due("keenest never said", x.next(0, 0, 1, 1), 1);
        Say.tell(x, 0, 0, "");
        due("no words", x.next(0, 0, 0, 2), NONE);
    }

    private static void echoes() {
        promise = 26;
        FrostReplies x = new FrostReplies();
        due("none", x.echo(0, 0, 0, false), -2);
        Say.tell(x, 2, NONE, "line abcabd;line cabf;line e;line abdeab;");
        due("cab", x.echo(0, 0, 1, false), 3);
        due("at 2", x.echo(0, 0, 1, true), 2);
        due("at 0", x.echo(0, 1, 0, true), 0);
        due("no echo", x.echo(0, 0, 2, false), 0);
        due("nowhere", x.echo(0, 0, 2, true), NONE);
        due("abd", x.echo(0, 0, 3, true), 3);
        due("of several the least", x.echo(0, 3, 1, true), 0);
        due("two long", x.echo(0, 3, 1, false), 2);
        due("itself", x.echo(0, 0, 0, false), 6);
        due("line 4", x.echo(0, 0, 4, false), -2);
        due("line -1", x.echo(0, -1, 0, true), -2);
        due("lines 1", x.echo(1, 0, 0, false), -2);
    }

    private static void alikes() {
        promise = 27;
        FrostReplies x = hillOf("word abcd 1;word abd 1;word f 1;word bcdabc 1;");
        due("ab", x.alike(0, 0, 1, false), 2);
        due("one apart", x.alike(0, 0, 1, true), 1);
        due("nothing", x.alike(0, 0, 2, false), 0);
        due("four apart", x.alike(0, 2, 0, true), 4);
        due("a out, abc in", x.alike(0, 0, 3, true), 4);
        due("itself", x.alike(0, 0, 0, false), 4);
        due("itself", x.alike(0, 0, 0, true), 0);
        due("word 4", x.alike(0, 0, 4, false), NONE);
        due("word -1", x.alike(0, -1, 0, true), NONE);
        due("no hill", x.alike(1, 0, 0, false), NONE);
    }

    private static void trees() {
        promise = 28;
        FrostReplies x = hillOf("word abc 1;word ab 1;word ad 1;word fd 1;word fdabca 0;asks 1 0;asks 1 1;asks 2 0;asks 2 2;"
            + "asks 5 3;asks 5 4;follows 0 1;follows 1 2;follows 2 0;follows 3 4;");
        due("closest", x.tree(0, 0), 1);
        due("one apart", x.tree(0, 1), 1);
        due("a ab abc ad f fd fda fdab fdabc fdabca", x.tree(0, 2), 10);
        due("within", x.tree(0, 3), 10);
        due("unsure", x.tree(0, 4), 34);
        due("leads of 0", x.tree(0, 10), 7);
        due("leads of 2", x.tree(0, 12), 7);
        due("leads of 3", x.tree(0, 13), 16);
        due("leads of 4", x.tree(0, 14), 0);
        due("word 5", x.tree(0, 15), -2);
        due("what 5", x.tree(0, 5), -2);
        due("what 9", x.tree(0, 9), -2);
        due("what -1", x.tree(0, -1), -2);
        due("least", x.tree(0, MIN), -2);
        due("no hill", x.tree(1, 0), -2);
        Say.tell(x, 0, NONE, "word abc 1;");
        due("one word", x.tree(1, 0), NONE);
        due("one word", x.tree(1, 1), NONE);
        due("a ab abc", x.tree(1, 2), 3);
        due("itself by no follows", x.tree(1, 10), 1);
        Say.tell(x, 0, 1, "");
        due("no beginnings", x.tree(1, 2), 0);
        due("none within", x.tree(1, 3), 0);
        Say.tell(x, 0, 1, "word aaaaaa 1;word bbbbb 1;word cc 1;word d 1;word ccdd 1;word dd 1;");
        due("2, 3 are two apart; 2, 4 too; 3, 5 one", x.tree(1, 0), 35);
    }

    private static void chains() {
        promise = 29;
        FrostReplies x = hillOf("word a 1;word b 1;word c 1;word d 1;follows 3 1;follows 1 0;follows 0 1;follows 2 1;follows 1 2;");
        due("three", x.chain(0, NONE), 3);
        due("0", x.chain(0, 0), 0);
        due("1", x.chain(0, 1), 1);
        due("2", x.chain(0, 2), 2);
        due("no fourth", x.chain(0, 3), NONE);
        due("-2", x.chain(0, -2), NONE);
        due("most", x.chain(0, MAX), NONE);
        due("no hill", x.chain(1, NONE), NONE);
        Say.tell(x, 0, NONE, "word a 1;word b 1;follows 0 0;");
        due("one", x.chain(1, NONE), 1);
        due("the least", x.chain(1, 0), 0);
        Say.tell(x, 0, 1, "");
        due("no words", x.chain(1, NONE), 0);
        due("no first", x.chain(1, 0), NONE);
        Say.tell(x, 0, 1, "word a 1;word b 1;word c 1;word d 1;word e 1;word f 1;word aa 1;word ab 1;word ac 1;word ad 1;");
        due("ten", x.chain(1, NONE), 10);
        due("the last", x.chain(1, 9), 9);
        Say.tell(x, 0, 1, "word a 1;word b 1;word c 1;follows 2 0;follows 0 1;");
        due("2 0 1", x.chain(1, 0), 2);
        due("2 0 1", x.chain(1, 1), 0);
        due("2 0 1", x.chain(1, 2), 1);
    }

    private static void afters() {
        promise = 30;
        FrostReplies x = hillAnd("word a 1;word ab 1;stones 3;", Say.CENTURY,
            "forge 2 a;frost 1 a;moss 1;frost 0 a;frost 0 b;moss 0;forge 0 d;forge 0 d;chip 0;chip 0;forge 0 c;moss 0;moss 2;moss 2;");
        due("stop", x.stop(0, 0), 11);
        due("wordiest: of two the least", x.after(0, 0, 0), 0);
        due("first", x.after(0, 0, 1), 2);
        due("fullest", x.after(0, 0, 2), 4);
        due("feigned", x.after(0, 0, 3), 5);
        due("what 4", x.after(0, 0, 4), -2);
        due("what -1", x.after(0, 0, -1), -2);
        due("no hill", x.after(1, 0, 0), -2);
        due("no century", x.after(0, 1, 0), -2);
        Say.tell(x, 1, NONE, "moss 0;frost 0 a;moss 0;");
        due("nothing told", x.after(0, 1, 0), NONE);
        due("no first", x.after(0, 1, 1), NONE);
        due("empty", x.after(0, 1, 2), 0);
        due("none forged", x.after(0, 1, 3), 0);
        Say.tell(x, 1, 1, "frost 2 a;moss 2;frost 1 a;moss 1;frost 2 a;moss 2;");
        due("wordiest 2", x.after(0, 1, 0), 2);
        due("first 1", x.after(0, 1, 1), 1);
    }

    private static void ages() {
        promise = 31;
        FrostReplies x = logOf("");
        due("least", x.age(0, false), 0);
        due("most", x.age(0, true), 9);
        due("no log", x.age(1, false), NONE);
        due("no log", x.age(-1, true), NONE);
        x = logOf("depth 1 9;depth 0 8;");
        // s 9, t below w, (g + t) by w is 1: least g 1, w 1, t 0; most g + t below 2 w, so 17
        due("one frost each year", x.age(0, false), 1);
        due("g 9, w 9, t 8", x.age(0, true), 17);
    }

    private static void waits() {
        promise = 32;
        FrostReplies x = new FrostReplies();
        due("12 by 7", x.waits(12, 7, false), 120);
        due("12 by 7", x.waits(12, 7, true), 7);
        due("3 by 6", x.waits(3, 6, false), 5);
        due("3 by 6", x.waits(3, 6, true), 1);
        due("1 by 10", x.waits(1, 10, false), 1);
        due("p 0", x.waits(1, 0, false), NONE);
        due("p 11", x.waits(1, 11, false), NONE);
        due("n 0", x.waits(0, 1, true), NONE);
        due("n 13", x.waits(13, 1, true), NONE);
    }

    private static void counts() {
        promise = 33;
        FrostReplies x = new FrostReplies();
        Say.tell(x, 1, NONE, "");
        Say.tell(x, 1, NONE, "");
        Say.tell(x, 3, NONE, "");
        due("hills", x.count(0), 0);
        due("centuries", x.count(1), 2);
        due("lines", x.count(2), 0);
        due("logs", x.count(3), 1);
        due("sort 4", x.count(4), -2);
        due("sort -1", x.count(-1), -2);
    }

    private static void images() {
        promise = 34;
        FrostReplies x = new FrostReplies();
        due("image 3", x.image(3), false);
        due("image -1", x.image(-1), false);
        due("image 2", x.image(2), true);
        Say.tell(x, 0, NONE, "word a 1;stones 4;follows 0 0;asks 1 0;");
        Say.tell(x, 1, NONE, "frost 0 a;");
        Say.tell(x, 2, NONE, "line abc;");
        Say.tell(x, 3, NONE, "depth 3 4;");
        x.age(0, true);
        Say.tell(x, 3, 0, "depth 3 4");
        Say.tape(x, "line f;");
        due("image 0", x.image(0), true);
        Say.tell(x, 0, 0, "word bb 2;word c 3;");
        Say.tell(x, 1, 0, "moss 1;chip 1;");
        Say.tell(x, 2, 0, "line d;line e;");
        Say.tell(x, 2, NONE, "line d;line e;");
        Say.tell(x, 3, 0, "depth 2 0;depth 1 0;");
        Say.tape(x, "xyz");
        due("image 1", x.image(1), true);
        promise = 35;
        due("again 3", x.again(3), false);
        due("again -1", x.again(-1), false);
        due("again 0", x.again(0), true);
        due("fault", x.fault(0), 1);
        due("its place", x.fault(1), 9);
        due("the word", x.hill(0, 100), 0);
        due("words", x.hill(0, 1), 1);
        due("stones", x.hill(0, 0), 4);
        due("answers", x.hill(0, 41), 1);
        due("deed", x.deed(0, 0, 0), 0);
        due("line", x.line(0, 0, NONE), 3);
        due("one text of lines", x.count(2), 1);
        due("log", x.fact(0, 0, 1), 4);
        due("rules by it", x.forged(0, 10), 4110);
        due("the tape", x.end(7), 7);
        due("no longer tape", x.end(8), NONE);
        due("what was on it", x.text(2, NONE), 1);
        due("f", x.line(1, 0, 0), 5);
        due("again 1", x.again(1), true);
        due("the other word", x.hill(0, 100), 1);
        due("any behind any", x.hill(0, 30), 3);
        due("deeds", x.deed(0, NONE, 0), 2);
        due("lines", x.line(1, NONE, 0), 2);
        due("log", x.forged(0, 10), 1111);
        due("tape", x.end(3), 3);
        due("no fault", x.fault(0), 0);
        due("again 0 once more", x.again(0), true);
        due("the word", x.hill(0, 100), 0);
        due("image 0 kept anew", x.image(0), true);
        due("again 2", x.again(2), true);
        due("nothing told", x.count(0), 0);
        due("other images stay", x.again(1), true);
        due("two words", x.hill(0, 1), 2);
    }
}
