import java.util.ArrayList;
import java.util.List;

/** What was told, asked or refused ahead leaves nothing behind in later answers. */
final class EdgesOfOrder {
    private static final int NONE = Due.NONE;

    /** As much as may be told of each sort. */
    private static final String[] MOST = {
        "stones 4;word ffffff 99;word fffffe 98;word fffff 97;word fffef 96;word ffe 95;word fef 94;word ef 93;word eff 92;word f 91;word e 90;"
            + "follows 0 9;follows 9 0;follows 8 8;follows 8 9;follows 1 2;follows 2 3;follows 3 4;follows 4 5;follows 5 6;follows 6 7;"
            + "asks 0 9;asks 0 8;asks 1 7;asks 2 6;asks 3 5;asks 4 4;asks 5 3;asks 5 2;asks 5 1;asks 5 0;",
        Say.repeat("frost 3 f;moss 3;", 11) + Say.repeat("forge 2 f;", 12) + "split 1;forge 0 f;forge 0 e;chip 0;forge 0 d;split 3;",
        "line ffffffffffff;line ffffffeeeeee;line efefefefefef;line eeeeeeffffff;line fffeeefffeee;line ffefffefffef;",
        "depth 11 9;depth 11 9;depth 10 0;depth 0 0;depth 1 3;depth 2 5;depth 2 5;depth 2 6;"};

    private static final String[][] OTHERS = {
        {"", "", "", ""},
        {"word a 1;", "frost 0 a;", "line a;", "depth 0 0;"},
        {"word a 0;word ab 2;word b 1;follows 0 2;asks 4 1;", "frost 0 a;frost 0 b;moss 0;frost 1 b;", "line ab;line b;", "depth 1 9;depth 0 8;"},
        {"word ab 5;word cd 5;word abcd 1;stones 1;", "forge 0 c;frost 0 d;moss 0;chip 0;", "line abcd;line c;line dc;", "depth 8 9;depth 0 9;"},
        {"word f 1;word fe 1;word ef 1;follows 2 0;follows 1 1;asks 0 0;asks 0 1;stones 3;", "forge 2 f;moss 2;split 0;", "line fef;line e;", "depth 3 4;"}};

    private EdgesOfOrder() {
    }

    static void run(Due due) {
        due.of("Promise 4: text");
        due.by("or in the place of one: its number.");
        for (String[] texts : OTHERS) {
            inPlaceOfMost(due, texts);
        }
        due.by("NONE: a FAULT.");
        for (String[] texts : OTHERS) {
            behindFaults(due, texts);
        }
        due.of("What it is");
        due.by("An object is used for at most 512 calls after it has been made");
        manyCalls(due);
        due.of("Promise 35: again");
        due.by("All that is as image k has it (other images stay): true");
        for (String[] texts : OTHERS) {
            again(due, texts);
        }
        due.of("Promise 9: state");
        due.by("Of a STATE, what 0: STONES that have SPLIT (bits)");
        for (String[] texts : OTHERS) {
            askedInTurn(due, texts);
        }
    }

    private static FrostReplies told(String[] texts) {
        FrostReplies x = new FrostReplies();
        for (int sort = 0; sort < 4; sort++) {
            Say.tell(x, sort, NONE, texts[sort]);
        }
        return x;
    }

    private static void tellInPlace(FrostReplies x, String[] texts) {
        for (int sort = 0; sort < 4; sort++) {
            Say.tell(x, sort, 0, texts[sort]);
        }
    }

    private static void inPlaceOfMost(Due due, String[] texts) {
        FrostReplies x = told(MOST);
        due.is("told in full", x.hill(0, 1) + x.deed(0, NONE, 0) + x.line(0, NONE, 0) + x.fact(0, NONE, 0), 10 + 40 + 6 + 8);
        answers(x, 0);
        tellInPlace(x, texts);
        due.is("the most told ahead of " + texts[0], answers(x, 0), answers(told(texts), 0));
    }

    private static void behindFaults(Due due, String[] texts) {
        FrostReplies x = told(texts);
        for (int sort = 0; sort < 4; sort++) {
            due.is("a fault", Say.tell(x, sort, 0, MOST[sort] + "#"), NONE);
            due.is("a fault", Say.tell(x, sort, NONE, MOST[sort] + MOST[sort].substring(0, 1)), NONE);
        }
        due.is("faults behind " + texts[0], answers(x, 0), answers(told(texts), 0));
    }

    /** The 512th call is answered as the first one. */
    private static void manyCalls(Due due) {
        FrostReplies x = new FrostReplies();
        for (int call = 1; call <= 500; call++) {
            switch (call % 5) {
                case 0: due.is("text, call " + call, x.text(Say.HILL, call == 5 ? NONE : 0), 0); break;
                // "word", " ab ", "3;  "
                case 1: due.is("feed, call " + call, x.feed(0x776f7264, 0x20616220, 0x333b2020, 0x20202020, 0x20202020), 20); break;
                case 2: due.is("image, call " + call, x.image(call % 3), true); break;
                case 3: due.is("end, call " + call, x.end(10), 10); break;
                default: due.is("again, call " + call, x.again((call - 2) % 3), true); break;
            }
        }
        for (int call = 501; call <= 512; call++) {
            due.is("hill, call " + call, x.hill(0, 20), 3);
        }
    }

    private static void again(Due due, String[] texts) {
        FrostReplies x = told(texts);
        x.image(0);
        tellInPlace(x, MOST);
        x.image(1);
        due.is("again 0", x.again(0), true);
        due.is("again " + texts[0], answers(x, 0), answers(told(texts), 0));
        due.is("again 1", x.again(1), true);
        due.is("again the most", x.state(0, 0, 34, 12), 12);
        due.is("again the most, words", x.hill(0, 1), 10);
        FrostReplies y = told(MOST);
        y.image(0);
        tellInPlace(y, texts);
        y.image(0);
        tellInPlace(y, MOST);
        y.again(0);
        due.is("again, taken anew, " + texts[0], answers(y, 0), answers(told(texts), 0));
    }

    /** The first ones of each sort are the most, the second ones are asked about behind these. */
    private static void askedInTurn(Due due, String[] texts) {
        FrostReplies x = told(MOST);
        for (int sort = 0; sort < 4; sort++) {
            Say.tell(x, sort, NONE, texts[sort]);
        }
        FrostReplies other = told(texts);
        List<Long> got = new ArrayList<>();
        List<Long> want = new ArrayList<>();
        for (int part = 0; part < 4; part++) {
            add(x, 0, part, new ArrayList<>());
            add(x, 1, part, got);
            add(other, 0, part, want);
        }
        due.is("asked behind the most, of " + texts[0], got, want);
    }

    private static List<Long> answers(FrostReplies x, int i) {
        List<Long> all = new ArrayList<>();
        for (int part = 0; part < 4; part++) {
            add(x, i, part, all);
        }
        return all;
    }

    private static void add(FrostReplies x, int i, int part, List<Long> all) {
        switch (part) {
            case 0: addHill(x, i, all); break;
            case 1: addCentury(x, i, all); break;
            case 2: addLines(x, i, all); break;
            default: addLog(x, i, all); break;
        }
    }

    private static void addHill(FrostReplies x, int i, List<Long> all) {
        for (int what : new int[] {0, 1, 10, 11, 20, 30, 31, 32, 40, 44, 100, 101, 106}) {
            all.add((long) x.hill(i, what));
        }
        all.add(x.asked(i, 0, false));
        all.add((long) x.soonest(i));
        all.add((long) x.sentences(i, 3));
        all.add((long) x.twice(i));
        all.add((long) x.ghost(i, true));
        all.add((long) x.alike(i, 0, 1, true));
        for (int what : new int[] {0, 1, 2, 3, 4, 10, 11}) {
            all.add((long) x.tree(i, what));
        }
        for (int k = -1; k < 3; k++) {
            all.add((long) x.chain(i, k));
        }
    }

    private static void addCentury(FrostReplies x, int i, List<Long> all) {
        for (int k = -1; k < 4; k++) {
            all.add((long) x.deed(i, k, 0));
            all.add((long) x.deed(i, k, 2));
        }
        int stop = x.stop(i, i);
        all.add((long) stop);
        for (int what : new int[] {0, 10, 11, 12, 20, 30, 40, 50, 51, 60, 62, 100, 101, 200, 201, 212, 224}) {
            all.add((long) x.state(i, i, stop, what));
        }
        for (int what = 0; what < 4; what++) {
            all.add((long) x.after(i, i, what));
        }
        for (int what : new int[] {0, 10, 20, 30, 40, 50, 60, 100, 200}) {
            all.add((long) x.drawn(i, 12, 20, what));
        }
    }

    private static void addLines(FrostReplies x, int i, List<Long> all) {
        for (int k = -1; k < 2; k++) {
            all.add((long) x.line(i, k, 0));
            all.add((long) x.line(i, k, NONE));
            all.add((long) x.line(i, k, 1));
            all.add((long) x.said(i, i, k, 0));
            all.add((long) x.said(i, i, k, 1));
            all.add(x.odds(i, i, k, 1, false));
            all.add(x.sure(i, i, k, false));
            all.add((long) x.reading(i, i, k, NONE));
            all.add((long) x.reading(i, i, k, 1));
            all.add((long) x.slips(i, i, k, 2));
            for (int what = 0; what < 3; what++) {
                all.add((long) x.next(i, i, k, what));
            }
            all.add((long) x.echo(i, 0, k, false));
        }
    }

    private static void addLog(FrostReplies x, int i, List<Long> all) {
        for (int k = -1; k < 3; k++) {
            all.add((long) x.fact(i, k, 0));
            all.add((long) x.fact(i, k, 1));
        }
        for (int what : new int[] {0, 1, 2, 10, 11}) {
            all.add((long) x.forged(i, what));
        }
        all.add((long) x.age(i, false));
        all.add((long) x.age(i, true));
        all.add(x.chance(2, 3, 4, false));
        all.add(x.waits(3, 4, false));
    }
}
