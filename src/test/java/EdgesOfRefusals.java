import java.util.ArrayList;
import java.util.List;

/** A refused call changes nothing but what the document says; nor does one that only asks. */
final class EdgesOfRefusals {
    private static final int NONE = Due.NONE;
    private static final int[] OUTSIDE = {Due.MIN, -2, -1, 2, 3, Due.MAX};
    private static final String TAPE = "line de;";
    private static final int HASHES = 0x23232323;

    private interface Call {
        long of(FrostReplies x);
    }

    private final Due due;
    private final List<Long> seenAtFirst;

    private EdgesOfRefusals(Due counted) {
        due = counted;
        seenAtFirst = seen(world(true, TAPE));
    }

    static void run(Due due) {
        EdgesOfRefusals all = new EdgesOfRefusals(due);
        all.noHill();
        all.noCentury();
        all.noLines();
        all.noLog();
        all.noLine();
        all.noWhat();
        all.noNumber();
        all.tape();
        all.texts();
        all.images();
        all.answered();
        all.nothingTold();
    }

    /** Two of each sort, image 1 of another state, then a FAULT or none, then a tape. */
    private static FrostReplies world(boolean faulty, String tape) {
        FrostReplies x = new FrostReplies();
        Say.tell(x, Say.HILL, NONE, "word f 7;");
        Say.tell(x, Say.LINES, NONE, "line ff;line z;");
        Say.tape(x, "line ccc;");
        x.image(1);
        Say.tell(x, Say.HILL, 0, "stones 3;word ab 2;word abc 1;word b 0;follows 0 2;follows 2 0;asks 1 0;asks 1 1;");
        Say.tell(x, Say.HILL, NONE, "word e 9;");
        Say.tell(x, Say.CENTURY, NONE, "frost 0 a;frost 0 b;moss 0;forge 1 c;split 2;");
        Say.tell(x, Say.CENTURY, NONE, "chip 0;");
        Say.tell(x, Say.LINES, NONE, "line ab;line b;");
        Say.tell(x, Say.LINES, NONE, "line abcdef;");
        Say.tell(x, Say.LOG, NONE, "depth 0 3;depth 2 5;");
        Say.tell(x, Say.LOG, NONE, "");
        if (faulty) {
            Say.tell(x, Say.HILL, 0, "word g 1;");
        }
        Say.tape(x, tape);
        return x;
    }

    /** All that can be seen of an object, which is used up by it. */
    private static List<Long> seen(FrostReplies x) {
        List<Long> all = new ArrayList<>();
        addTold(x, all);
        addTape(x, all);
        all.add(x.again(0) ? 1L : 0L);
        all.add(x.again(2) ? 1L : 0L);
        all.add(x.again(1) ? 1L : 0L);
        addTold(x, all);
        addTape(x, all);
        return all;
    }

    private static void addTold(FrostReplies x, List<Long> all) {
        all.add((long) x.fault(0));
        all.add((long) x.fault(1));
        for (int i = 0; i < 2; i++) {
            all.add((long) x.count(2 * i));
            all.add((long) x.count(2 * i + 1));
            for (int what : new int[] {0, 1, 10, 11, 12, 20, 21, 22, 30, 31, 32, 40, 41, 100, 101, 106, 107, 108, 112}) {
                all.add((long) x.hill(i, what));
            }
            for (int k = 0; k < 5; k++) {
                all.add((long) x.deed(i, k - 1, 0));
                all.add((long) x.deed(i, k, 1));
                all.add((long) x.deed(i, k, 2));
            }
            for (int k = -1; k < 2; k++) {
                all.add((long) x.line(i, k, 0));
                all.add((long) x.line(i, k, NONE));
                all.add((long) x.line(i, k, 1));
                all.add((long) x.fact(i, k, 0));
                all.add((long) x.fact(i, k, 1));
            }
        }
    }

    /** How long the tape is, and what it says as LINES, in the place of the first ones or as such. */
    private static void addTape(FrostReplies x, List<Long> all) {
        int length = x.feed(HASHES, HASHES, HASHES, HASHES, HASHES) - 20;
        for (int n = 600; length < 0 && n > 580; n--) {
            length = x.end(n);
        }
        all.add((long) length);
        all.add((long) x.end(length));
        all.add((long) x.text(Say.LINES, x.count(Say.LINES) > 0 ? 0 : NONE));
        all.add((long) x.fault(0));
        all.add((long) x.fault(1));
        for (int i = -1; i < 3; i++) {
            all.add((long) x.line(0, 0, i));
        }
    }

    private void no(String name, long want, Call call) {
        FrostReplies x = world(true, TAPE);
        due.is(name, call.of(x), want);
        due.is(name, seen(x), seenAtFirst);
        // and on an object that has just been asked everything else: nothing of these answers is left
        FrostReplies y = world(true, TAPE);
        askAll(y);
        due.is(name + ", asked late", call.of(y), want);
        due.is(name + ", asked twice", call.of(y), want);
    }

    private static void askAll(FrostReplies x) {
        x.forged(0, 1);
        x.age(0, true);
        x.after(0, 0, 2);
        x.drawn(0, 1, 60, 10);
        x.state(0, 0, 4, 10);
        x.sentences(0, 6);
        x.twice(0);
        x.ghost(0, true);
        x.chain(0, 1);
        x.tree(0, 0);
        x.alike(0, 0, 1, true);
        x.echo(0, 0, 1, true);
        x.slips(0, 0, 0, 1);
        x.reading(0, 0, 0, 0);
        x.next(0, 0, 0, 2);
        x.odds(0, 0, 0, 1, true);
        x.sure(0, 0, 0, true);
        x.said(0, 0, 0, 1);
    }

    private void noHill() {
        due.of("Promise 6: hill");
        due.by("NONE: there is none such (of any), or for another what.");
        for (int i : OUTSIDE) {
            no("hill " + i, NONE, x -> x.hill(i, 0));
            no("hill " + i + ", word", NONE, x -> x.hill(i, 10));
            no("stop " + i, NONE, x -> x.stop(i, 0));
            no("state " + i, -2, x -> x.state(i, 0, 0, 0));
            no("said " + i, -2, x -> x.said(i, 0, 0, 0));
            no("odds " + i, NONE, x -> x.odds(i, 0, 0, 0, false));
            no("sure " + i, NONE, x -> x.sure(i, 0, 0, true));
            no("reading " + i, NONE, x -> x.reading(i, 0, 0, NONE));
            no("slips " + i, NONE, x -> x.slips(i, 0, 0, 0));
            no("asked " + i, NONE, x -> x.asked(i, 1, false));
            no("soonest " + i, NONE, x -> x.soonest(i));
            no("sentences " + i, NONE, x -> x.sentences(i, 1));
            no("twice " + i, NONE, x -> x.twice(i));
            no("ghost " + i, -2, x -> x.ghost(i, false));
            no("ghost " + i + ", first", -2, x -> x.ghost(i, true));
            no("drawn " + i, -2, x -> x.drawn(i, 1, 1, 0));
            no("next " + i, -2, x -> x.next(i, 0, 0, 0));
            no("alike " + i, NONE, x -> x.alike(i, 0, 0, false));
            no("tree " + i, -2, x -> x.tree(i, 0));
            no("chain " + i, NONE, x -> x.chain(i, NONE));
            no("after " + i, -2, x -> x.after(i, 0, 2));
        }
    }

    private void noCentury() {
        due.of("Promise 7: deed");
        due.by("-2: there is none such (of either), or for another what.");
        for (int i : OUTSIDE) {
            no("deed " + i, -2, x -> x.deed(i, NONE, 0));
            no("deed 0 of " + i, -2, x -> x.deed(i, 0, 0));
            no("stop of " + i, NONE, x -> x.stop(0, i));
            no("state of " + i, -2, x -> x.state(0, i, 0, 0));
            no("after of " + i, -2, x -> x.after(0, i, 2));
        }
    }

    private void noLines() {
        due.of("Promise 10: line");
        due.by("-2: there is none such (of any).");
        for (int i : OUTSIDE) {
            no("line " + i, -2, x -> x.line(i, NONE, 0));
            no("line 0 of " + i, -2, x -> x.line(i, 0, 0));
            no("letters of line 0 of " + i, -2, x -> x.line(i, 0, NONE));
            no("said of " + i, -2, x -> x.said(0, i, 0, 1));
            no("odds of " + i, NONE, x -> x.odds(0, i, 0, 0, true));
            no("sure of " + i, NONE, x -> x.sure(0, i, 0, false));
            no("reading of " + i, NONE, x -> x.reading(0, i, 0, 0));
            no("slips of " + i, NONE, x -> x.slips(0, i, 0, 3));
            no("next of " + i, -2, x -> x.next(0, i, 0, 2));
            no("echo of " + i, -2, x -> x.echo(i, 0, 0, false));
            no("echo of " + i + ", where", -2, x -> x.echo(i, 0, 0, true));
        }
    }

    private void noLog() {
        due.of("Promise 22: forged");
        due.by("-2: there is none such (of either), or for another what.");
        for (int i : OUTSIDE) {
            no("fact " + i, -2, x -> x.fact(i, NONE, 0));
            no("fact 0 of " + i, -2, x -> x.fact(i, 0, 1));
            no("forged " + i, -2, x -> x.forged(i, 0));
            no("forged " + i + ", the first", -2, x -> x.forged(i, 10));
            no("age " + i, NONE, x -> x.age(i, false));
            no("age " + i + ", most", NONE, x -> x.age(i, true));
        }
    }

    /** OUTSIDE of the two LINES, and outside of the one LINE of the second text. */
    private void noLine() {
        due.of("Promise 11: said");
        due.by("-2: there is none such (of any), or for another what.");
        for (int k : OUTSIDE) {
            no("said of line " + k, -2, x -> x.said(0, 0, k, 0));
            no("odds of line " + k, NONE, x -> x.odds(0, 0, k, 0, false));
            no("sure of line " + k, NONE, x -> x.sure(0, 0, k, false));
            no("reading of line " + k, NONE, x -> x.reading(0, 0, k, NONE));
            no("slips of line " + k, NONE, x -> x.slips(0, 0, k, 0));
            no("next of line " + k, -2, x -> x.next(0, 0, k, 0));
            no("echo of line " + k, -2, x -> x.echo(0, k, 0, false));
            no("echo in line " + k, -2, x -> x.echo(0, 0, k, true));
        }
        no("said of line 1 of one", -2, x -> x.said(0, 1, 1, 0));
        no("odds of line 1 of one", NONE, x -> x.odds(0, 1, 1, 0, false));
        no("sure of line 1 of one", NONE, x -> x.sure(0, 1, 1, false));
        no("reading of line 1 of one", NONE, x -> x.reading(0, 1, 1, NONE));
        no("slips of line 1 of one", NONE, x -> x.slips(0, 1, 1, 0));
        no("next of line 1 of one", -2, x -> x.next(0, 1, 1, 0));
        no("echo of line 1 of one", -2, x -> x.echo(1, 1, 0, false));
        no("echo in line 1 of one", -2, x -> x.echo(1, 0, 1, false));
    }

    private void noWhat() {
        due.of("Promise 9: state");
        due.by("-2: there is no such STATE, or for another what.");
        for (int what : new int[] {Due.MIN, -1, 9, 99, 5000, Due.MAX}) {
            no("hill, what " + what, NONE, x -> x.hill(0, what));
            no("deed, what " + what, -2, x -> x.deed(0, 0, what));
            no("state, what " + what, -2, x -> x.state(0, 0, 3, what));
            no("said, what " + what, -2, x -> x.said(0, 0, 0, what));
            no("fact, what " + what, -2, x -> x.fact(0, 0, what));
            no("drawn, what " + what, -2, x -> x.drawn(0, 1, 1, what));
            no("next, what " + what, -2, x -> x.next(0, 0, 0, what));
            no("tree, what " + what, -2, x -> x.tree(0, what));
            no("after, what " + what, -2, x -> x.after(0, 0, what));
            no("fault, what " + what, NONE, x -> x.fault(what));
            no("count of " + what, -2, x -> x.count(what));
        }
        for (int what : new int[] {Due.MIN, -1, 3, 9, 7300, Due.MAX}) {
            no("forged, what " + what, -2, x -> x.forged(0, what));
        }
    }

    private void noNumber() {
        due.of("Promise 23: chance");
        due.by("NONE: other numbers.");
        for (int n : new int[] {Due.MIN, -3, -2, 61, 100, Due.MAX}) {
            no("state behind " + n, -2, x -> x.state(0, 0, n, 0));
            no("deed " + n, -2, x -> x.deed(0, n, 0));
            no("line " + n, -2, x -> x.line(0, n, 0));
            no("letter " + n, -2, x -> x.line(0, 0, n));
            no("fact " + n, -2, x -> x.fact(0, n, 0));
            no("word " + n, NONE, x -> x.odds(0, 0, 0, n, false));
            no("reading " + n, NONE, x -> x.reading(0, 0, 0, n));
            no("slips of " + n, NONE, x -> x.slips(0, 0, 0, n));
            no("question " + n, NONE, x -> x.asked(0, n, true));
            no("sentences of " + n, NONE, x -> x.sentences(0, n));
            no("drawn " + n, -2, x -> x.drawn(0, 1, n, 0));
            no("alike " + n, NONE, x -> x.alike(0, n, 0, false));
            no("apart " + n, NONE, x -> x.alike(0, 0, n, true));
            no("chain " + n, NONE, x -> x.chain(0, n));
            no("chance of " + n, NONE, x -> x.chance(n, 1, 1, false));
            no("chance in " + n, NONE, x -> x.chance(1, n, 1, false));
            no("chance by " + n, NONE, x -> x.chance(1, 1, n, true));
            no("waits for " + n, NONE, x -> x.waits(n, 1, false));
            no("waits by " + n, NONE, x -> x.waits(1, n, true));
        }
    }

    private void tape() {
        due.of("Promise 2: feed");
        due.by("NONE, and nothing comes, if there would be more than 600.");
        for (int length : new int[] {581, 590, 600}) {
            String text = "line de;" + Say.repeat(" ", length - 8);
            FrostReplies x = world(true, text);
            due.is("feed behind " + length, x.feed(HASHES, HASHES, HASHES, HASHES, HASHES), NONE);
            due.is("feed behind " + length, seen(x), seen(world(true, text)));
        }
        due.of("Promise 3: end");
        due.by("NONE if it has not so many, or n is below 0.");
        for (int n : new int[] {Due.MIN, -8, -1, 9, 10, 600, 601, Due.MAX}) {
            no("end " + n, NONE, x -> x.end(n));
        }
        no("end 8 of 8", 8, x -> x.end(8));
    }

    private void texts() {
        due.of("Promise 4: text");
        due.by("-2: there is none such, there are as many as may be, or no such sort (no text is read then, FAULT 0).");
        List<Long> emptied = seen(world(false, ""));
        for (int sort : new int[] {Due.MIN, -1, 0, 1, 2, 3, 4, Due.MAX}) {
            for (int at : OUTSIDE) {
                FrostReplies x = world(true, TAPE);
                due.is("text " + sort + ", " + at, x.text(sort, at), -2);
                due.is("text " + sort + ", " + at, seen(x), emptied);
            }
        }
        due.by("NONE: a FAULT.");
        List<Long> refused = seen(world(true, ""));
        for (int at = 0; at < 2; at++) {
            FrostReplies x = world(false, "word g 1;");
            due.is("a faulty hill, " + at, x.text(Say.HILL, at), NONE);
            due.is("a faulty hill, " + at, seen(x), refused);
        }
        String[] faulty = {"stones 0;", "moss 4;", "line g;", "depth 12 0;"};
        int[] places = {7, 5, 5, 6};
        for (int sort = 0; sort < 4; sort++) {
            for (int at = 0; at < 2; at++) {
                FrostReplies x = world(false, faulty[sort]);
                due.is("faulty " + sort + ", " + at, x.text(sort, at), NONE);
                due.is("its fault", x.fault(0), 2);
                due.is("its place", x.fault(1), places[sort]);
                List<Long> rest = seen(x);
                due.is("faulty " + sort + ", " + at, rest.subList(2, rest.size()), emptied.subList(2, emptied.size()));
            }
        }
    }

    private void images() {
        due.of("Promise 34: image");
        due.by("false for another k.");
        for (int k : new int[] {Due.MIN, -2, -1, 3, 4, Due.MAX}) {
            no("image " + k, 0, x -> x.image(k) ? 1 : 0);
        }
        due.of("Promise 35: again");
        due.by("false if there is none such.");
        for (int k : new int[] {Due.MIN, -2, -1, 0, 2, 3, 4, Due.MAX}) {
            no("again " + k, 0, x -> x.again(k) ? 1 : 0);
        }
    }

    /** Each call that asks, answered: it changes nothing either. */
    private void answered() {
        due.of("Promise 9: state");
        due.by("Of a STATE, what 0: STONES that have SPLIT (bits)");
        no("fault", 2, x -> x.fault(0));
        no("hill", 3, x -> x.hill(0, 0));
        no("deed", 5, x -> x.deed(0, NONE, 0));
        no("stop", 5, x -> x.stop(0, 0));
        no("state", 4, x -> x.state(0, 0, 5, 0));
        no("line", 2, x -> x.line(0, 0, NONE));
        no("said", 3, x -> x.said(0, 0, 0, 0));
        no("odds", 2, x -> x.odds(0, 0, 0, 0, false));
        no("sure", 3, x -> x.sure(0, 0, 0, true));
        no("reading", 1, x -> x.reading(0, 0, 0, NONE));
        no("slips", 7, x -> x.slips(0, 0, 0, 1));
        no("asked", 7, x -> x.asked(0, 1, false));
        no("soonest", 1, x -> x.soonest(0));
        no("sentences", 2, x -> x.sentences(0, 6));
        no("twice", NONE, x -> x.twice(0));
        no("ghost", 1, x -> x.ghost(0, false));
        no("fact", 5, x -> x.fact(0, 1, 1));
        no("forged", 7290, x -> x.forged(1, 1));
        no("chance", 1, x -> x.chance(1, 1, 5, false));
        no("drawn", 0, x -> x.drawn(0, 1, 60, 0));
        no("next", 4, x -> x.next(0, 0, 0, 0));
        no("echo", 1, x -> x.echo(0, 0, 1, false));
        no("alike", 2, x -> x.alike(0, 0, 1, false));
        no("tree", 1, x -> x.tree(0, 1));
        no("chain", 2, x -> x.chain(0, NONE));
        no("after", 2, x -> x.after(0, 0, 2));
        no("age", 9, x -> x.age(1, true));
        no("waits", 10, x -> x.waits(1, 1, false));
        no("count", 2, x -> x.count(3));
        no("image and again", 1, x -> x.image(1) && x.again(1) ? 1 : 0, world(true, TAPE));
    }

    /** Of a call that leaves another image, but the rest as it was. */
    private void no(String name, long want, Call call, FrostReplies x) {
        List<Long> before = new ArrayList<>();
        addTold(x, before);
        due.is(name, call.of(x), want);
        List<Long> behind = new ArrayList<>();
        addTold(x, behind);
        due.is(name, behind, before);
        addTape(x, behind);
        addTape(world(true, TAPE), before);
        due.is(name, behind, before);
    }

    /** A new object, of which each call says that there is none such. */
    private void nothingTold() {
        due.of("Promise 1: A new object");
        due.by("No HILLS, CENTURIES, LINES, LOGS; no images.");
        for (int i = -1; i <= 2; i++) {
            FrostReplies x = new FrostReplies();
            long[] none = {x.hill(i, 0), x.stop(i, i), x.odds(i, i, 0, 0, true), x.sure(i, i, 0, true), x.reading(i, i, 0, NONE),
                x.slips(i, i, 0, 0), x.asked(i, 0, true), x.soonest(i), x.sentences(i, 0), x.twice(i), x.alike(i, 0, 0, true),
                x.chain(i, NONE), x.age(i, true)};
            long[] absent = {x.deed(i, NONE, 0), x.state(i, i, 0, 0), x.line(i, NONE, 0), x.said(i, i, 0, 0), x.ghost(i, true),
                x.fact(i, NONE, 0), x.forged(i, 0), x.drawn(i, 0, 0, 0), x.next(i, i, 0, 0), x.echo(i, 0, 0, false), x.tree(i, 2),
                x.after(i, i, 2)};
            for (int k = 0; k < none.length; k++) {
                due.is("none " + k + " of " + i, none[k], NONE);
            }
            for (int k = 0; k < absent.length; k++) {
                due.is("absent " + k + " of " + i, absent[k], -2);
            }
            due.is("a new object still", seen(x), seen(new FrostReplies()));
        }
    }
}
