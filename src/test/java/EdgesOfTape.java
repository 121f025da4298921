/** The tape, texts, FAULTS, counts and images; promises 1 to 5, 33 to 35. */
final class EdgesOfTape {
    private static final int NONE = Due.NONE;
    private static final int BLANKS = 0x20202020;
    private static final String[] FINE = {"word f 1;", "split 3;", "line f;", "depth 3 4;"};
    private static final String[] OTHER = {"word e 1;word d 1;", "chip 2;moss 1;", "line e;line d;", "depth 2 5;depth 1 1;"};

    private EdgesOfTape() {
    }

    static void run(Due due) {
        due.of("Terms");
        due.by("The constants: `NONE = -1`: There is none.");
        due.is("NONE", FrostReplies.NONE, -1);
        newObject(due);
        feedBytes(due);
        feedRoom(due);
        ends(due);
        endsRefused(due);
        furtherTexts(due);
        textsInPlace(due);
        faultyTexts(due);
        noTexts(due);
        faults(due);
        counts(due);
        images(due);
        imagesOfTape(due);
        imagesRefused(due);
        again(due);
    }

    private static void newObject(Due due) {
        due.of("Promise 1: A new object");
        due.by("No HILLS, CENTURIES, LINES, LOGS; no images.");
        FrostReplies x = new FrostReplies();
        for (int sort = 0; sort < 4; sort++) {
            due.is("count " + sort, x.count(sort), 0);
        }
        for (int k = -1; k <= 3; k++) {
            due.is("again " + k, x.again(k), false);
        }
        due.is("no fault", x.fault(0), 0);
        due.is("no place", x.fault(1), NONE);
        due.is("nothing on the tape", x.end(1), NONE);
        due.is("the empty tape", x.end(0), 0);
        due.is("the first bytes", x.feed(0, 0, 0, 0, 0), 20);
        FrostReplies other = new FrostReplies();
        due.is("another one has none of these", other.end(1), NONE);
    }

    /** One byte that no text goes on with, at each of the twenty places. */
    private static void feedBytes(Due due) {
        due.of("Promise 2: feed");
        due.by("The tape: twenty bytes come behind it, of each number the highest first: how many it has.");
        for (int place = 0; place < 20; place++) {
            for (int b : new int[] {0, 1, 127, 128, 255}) {
                int[] numbers = {BLANKS, BLANKS, BLANKS, BLANKS, BLANKS};
                int shift = 24 - 8 * (place % 4);
                numbers[place / 4] = BLANKS & ~(255 << shift) | b << shift;
                FrostReplies x = new FrostReplies();
                due.is("twenty", x.feed(numbers[0], numbers[1], numbers[2], numbers[3], numbers[4]), 20);
                due.is("forty", x.feed(BLANKS, BLANKS, BLANKS, BLANKS, BLANKS), 40);
                due.is("a fault", x.text(Say.LINES, NONE), NONE);
                due.is("the place of " + b, x.fault(1), place);
                due.is("twenty anew", x.feed(BLANKS, BLANKS, BLANKS, BLANKS, BLANKS), 20);
                due.is("forty anew", x.feed(numbers[0], numbers[1], numbers[2], numbers[3], numbers[4]), 40);
                due.is("a fault", x.text(Say.LINES, NONE), NONE);
                due.is("the place of " + b + " in the second", x.fault(1), 20 + place);
            }
        }
        FrostReplies x = new FrostReplies();
        x.feed(0x6c696e65, 0x20666564, 0x6362613b, 0, 0);
        x.end(12);
        due.is("behind what is there", x.feed(0x6c696e65, 0x20623b20, BLANKS, BLANKS, BLANKS), 32);
        due.is("the text", x.text(Say.LINES, NONE), 0);
        for (int i = 0; i < 6; i++) {
            due.is("letter " + i, x.line(0, 0, i), 5 - i);
        }
        due.is("b", x.line(0, 1, 0), 1);
    }

    private static void feedRoom(Due due) {
        due.by("NONE, and nothing comes, if there would be more than 600.");
        for (int n : new int[] {0, 1, 579, 580}) {
            FrostReplies x = new FrostReplies();
            Say.tape(x, Say.repeat(" ", n));
            due.is("behind " + n, x.feed(0, 0, 0, 0, 0), n + 20);
            due.is("all there " + n, x.end(n + 20), n + 20);
            x.text(Say.LINES, NONE);
            due.is("they are there " + n, x.fault(1), n);
        }
        for (int n : new int[] {581, 582, 599, 600}) {
            FrostReplies x = new FrostReplies();
            Say.tape(x, Say.repeat(" ", n));
            due.is("behind " + n, x.feed(0, 0, 0, 0, 0), NONE);
            due.is("once more behind " + n, x.feed(0, 0, 0, 0, 0), NONE);
            due.is("no more than " + n, x.end(n + 1), NONE);
            due.is("as many as " + n, x.end(n), n);
            due.is("blanks alone " + n, x.text(Say.LINES, NONE), 0);
            due.is("room again " + n, x.feed(0, 0, 0, 0, 0), 20);
        }
        FrostReplies x = new FrostReplies();
        for (int i = 1; i <= 30; i++) {
            due.is("feed " + i, x.feed(BLANKS, BLANKS, BLANKS, BLANKS, BLANKS), 20 * i);
        }
        due.is("feed 31", x.feed(BLANKS, BLANKS, BLANKS, BLANKS, BLANKS), NONE);
        due.is("end 580", x.end(580), 580);
        due.is("room for twenty", x.feed(BLANKS, BLANKS, BLANKS, BLANKS, BLANKS), 600);
    }

    private static void ends(Due due) {
        due.of("Promise 3: end");
        due.by("The tape has its first n bytes alone: n.");
        String text = "line a;line b;line c;";
        for (int n = 0; n <= text.length(); n++) {
            FrostReplies x = new FrostReplies();
            Say.tape(x, text);
            due.is("end " + n, x.end(n), n);
            due.is("no more than " + n, x.end(n + 1), NONE);
            due.is("still " + n, x.end(n), n);
            boolean whole = n % 7 == 0;
            due.is("text of " + n, x.text(Say.LINES, NONE), whole ? 0 : NONE);
            // up to 'lin' it is a row with which no text goes on, from 'line' on its end
            due.is("its end " + n, x.fault(1), whole ? NONE : n % 7 < 4 ? n - n % 7 : n);
            due.is("lines of " + n, x.line(0, NONE, 0), whole ? n / 7 : -2);
        }
        FrostReplies x = new FrostReplies();
        Say.tape(x, "line abc;line f;");
        x.end(7);
        x.feed(0x643b2020, BLANKS, BLANKS, BLANKS, BLANKS);
        due.is("what was cut off is gone", x.text(Say.LINES, NONE), 0);
        due.is("abd alone", x.line(0, NONE, 0), 1);
        due.is("letters", x.line(0, 0, NONE), 3);
        due.is("d", x.line(0, 0, 2), 3);
    }

    private static void endsRefused(Due due) {
        due.by("NONE if it has not so many, or n is below 0.");
        for (int length : new int[] {0, 1, 7, 20, 600}) {
            FrostReplies x = new FrostReplies();
            Say.tape(x, Say.repeat(" ", length));
            for (int n : new int[] {Due.MIN, -600, -2, -1, length + 1, length + 2, 601, 1000, Due.MAX}) {
                due.is("end " + n + " of " + length, x.end(n), NONE);
            }
            due.is("still as many as " + length, x.end(length), length);
        }
    }

    private static void furtherTexts(Due due) {
        due.of("Promise 4: text");
        due.by("The tape is taken (and is empty then) as a text of a sort, a further one (at NONE)");
        for (int sort = 0; sort < 4; sort++) {
            FrostReplies x = new FrostReplies();
            due.is("first of " + sort, Say.tell(x, sort, NONE, FINE[sort]), 0);
            due.is("the tape is empty", x.end(1), NONE);
            due.is("second of " + sort, Say.tell(x, sort, NONE, OTHER[sort]), 1);
            due.is("the tape is empty", x.end(1), NONE);
            due.is("the first stays", many(x, sort, 0), 1);
            due.is("the second", many(x, sort, 1), 2);
            FrostReplies empty = new FrostReplies();
            due.is("of the empty tape", empty.text(sort, NONE), 0);
            due.is("nothing told", many(empty, sort, 0), 0);
            due.is("of the empty tape again", empty.text(sort, NONE), 1);
        }
    }

    /** How many WORDS, DEEDS, LINES, FACTS there are in one of a sort. */
    private static int many(FrostReplies x, int sort, int i) {
        switch (sort) {
            case Say.HILL: return x.hill(i, 1);
            case Say.CENTURY: return x.deed(i, NONE, 0);
            case Say.LINES: return x.line(i, NONE, 0);
            default: return x.fact(i, NONE, 0);
        }
    }

    private static void textsInPlace(Due due) {
        due.by("or in the place of one: its number.");
        for (int sort = 0; sort < 4; sort++) {
            FrostReplies x = new FrostReplies();
            Say.tell(x, sort, NONE, FINE[sort]);
            due.is("in the place of the only one", Say.tell(x, sort, 0, OTHER[sort]), 0);
            due.is("it is another one", many(x, sort, 0), 2);
            due.is("still one", x.count(sort), 1);
            due.is("a further one", Say.tell(x, sort, NONE, FINE[sort]), 1);
            due.is("in the place of the second", Say.tell(x, sort, 1, ""), 1);
            due.is("nothing in it", many(x, sort, 1), 0);
            due.is("the first stays", many(x, sort, 0), 2);
            due.is("in the place of the first", Say.tell(x, sort, 0, FINE[sort]), 0);
            due.is("one in it", many(x, sort, 0), 1);
            due.is("the second stays", many(x, sort, 1), 0);
            due.is("still two", x.count(sort), 2);
            due.is("the tape is empty", x.end(1), NONE);
        }
        FrostReplies x = due.hill("stones 4;word a 1;word b 1;follows 0 1;asks 3 1;");
        due.instead(x, Say.HILL, "word c 2;word d 2;");
        due.is("nothing is left of its stones", x.hill(0, 0), 2);
        due.is("nor of its follows", x.hill(0, 30), 3);
        due.is("nor of its answers", x.hill(0, 43), 0);
        due.instead(x, Say.HILL, "word c 2;word d 2;follows 1 0;asks 2 0;");
        due.is("nor of follows ahead of these", x.hill(0, 30), 0);
        due.is("nor of answers ahead of these", x.hill(0, 43), 0);
        fewerWords(due);
    }

    /** WORDS that were told ahead, and are not there any more, have no part in anything. */
    private static void fewerWords(Due due) {
        FrostReplies x = due.hillAnd("word c 1;word a 1;word ab 1;word cc 1;", Say.LINES, "line a;line ab;line cc;");
        due.instead(x, Say.HILL, "word a 1;");
        due.is("none alike", x.hill(0, 1), 1);
        due.is("a is said by one", x.said(0, 0, 0, 0), 1);
        due.is("ab by none", x.said(0, 0, 1, 0), 0);
        due.is("cc by none", x.said(0, 0, 2, 0), 0);
        due.is("a whole word", x.ghost(0, true), NONE);
        due.instead(x, Say.HILL, "word ab 1;");
        due.is("a is no word there", x.ghost(0, true), 0);
        due.is("ab by one", x.said(0, 0, 1, 0), 1);
        due.is("nothing behind it", x.next(0, 0, 1, 0), 0);
        due.is("one word alone", x.tree(0, 0), NONE);
        due.is("a, ab", x.tree(0, 2), 2);
        due.instead(x, Say.HILL, "word cc 1;word ab 1;word a 1;");
        due.is("three words", x.sentences(0, 1), 3);
        due.is("cc by one", x.said(0, 0, 2, 0), 1);
        due.is("no row is read twice", x.twice(0), NONE);
        due.instead(x, Say.HILL, "");
        due.is("no words", x.said(0, 0, 0, 0), 0);
        due.is("none to end", x.ghost(0, false), 0);
    }

    private static void faultyTexts(Due due) {
        due.by("NONE: a FAULT.");
        for (int sort = 0; sort < 4; sort++) {
            for (String bad : new String[] {"x", FINE[sort] + "y", FINE[sort].substring(0, FINE[sort].length() - 1)}) {
                FrostReplies x = new FrostReplies();
                due.is("the first", Say.tell(x, sort, NONE, bad), NONE);
                due.is("none is there", x.count(sort), 0);
                due.is("the tape is empty", x.end(1), NONE);
                Say.tell(x, sort, NONE, OTHER[sort]);
                due.is("a further one", Say.tell(x, sort, NONE, bad), NONE);
                due.is("still one", x.count(sort), 1);
                due.is("in its place", Say.tell(x, sort, 0, bad), NONE);
                due.is("it stays", many(x, sort, 0), 2);
                due.is("fault 1", x.fault(0), 1);
            }
        }
    }

    private static void noTexts(Due due) {
        due.by("-2: there is none such, there are as many as may be, or no such sort (no text is read then, FAULT 0).");
        for (int sort = 0; sort < 4; sort++) {
            for (int there = 0; there <= 2; there++) {
                FrostReplies x = new FrostReplies();
                for (int i = 0; i < there; i++) {
                    Say.tell(x, sort, NONE, OTHER[sort]);
                }
                for (int at : new int[] {Due.MIN, -3, -2, there, there + 1, 3, Due.MAX}) {
                    noText(due, x, sort, at, FINE[sort]);
                    noText(due, x, sort, at, "x");
                }
                if (there == 2) {
                    noText(due, x, sort, NONE, FINE[sort]);
                    noText(due, x, sort, NONE, "x");
                }
            }
        }
        FrostReplies x = new FrostReplies();
        for (int sort : new int[] {Due.MIN, -2, -1, 4, 5, Due.MAX}) {
            noText(due, x, sort, NONE, "line a;");
            noText(due, x, sort, 0, "line a;");
            noText(due, x, sort, 0, "");
        }
    }

    private static void noText(Due due, FrostReplies x, int sort, int at, String text) {
        String call = "text " + sort + ", " + at;
        // a FAULT of the text ahead is gone then
        due.is("a fault ahead", Say.tell(x, sort == Say.LINES ? Say.LOG : Say.LINES, NONE, "x"), NONE);
        int count = x.count(sort);
        due.is(call, Say.tell(x, sort, at, text), -2);
        due.is("fault behind " + call, x.fault(0), 0);
        due.is("place behind " + call, x.fault(1), NONE);
        due.is("tape behind " + call, x.end(1), NONE);
        due.is("count behind " + call, x.count(sort), count);
    }

    private static void faults(Due due) {
        due.of("Promise 5: fault");
        due.by("Of the latest text(), what 0: the FAULT, 0 without, 1: its place, NONE without.");
        FrostReplies x = new FrostReplies();
        fault(due, x, 0, NONE);
        Say.tell(x, Say.LINES, NONE, "line a;line g;");
        fault(due, x, 2, 12);
        Say.tape(x, "line");
        x.image(0);
        x.line(0, 0, 0);
        x.feed(0, 0, 0, 0, 0);
        fault(due, x, 2, 12);
        Say.tell(x, Say.HILL, NONE, "word a 1;word a 1;");
        fault(due, x, 5, 18);
        Say.tell(x, Say.HILL, NONE, "asks 0 0;");
        fault(due, x, 4, 9);
        Say.tell(x, Say.LOG, NONE, Say.repeat("depth 0 0;", 9));
        fault(due, x, 3, 80);
        Say.tell(x, Say.LOG, NONE, "x");
        fault(due, x, 1, 0);
        Say.tell(x, Say.LOG, NONE, "");
        fault(due, x, 0, NONE);
        due.by("NONE for another what.");
        for (int round = 0; round < 2; round++) {
            for (int what : new int[] {Due.MIN, -2, -1, 2, 3, Due.MAX}) {
                due.is("what " + what, x.fault(what), NONE);
            }
            Say.tell(x, Say.LOG, NONE, "x");
        }
    }

    private static void fault(Due due, FrostReplies x, int fault, int place) {
        due.is("the fault", x.fault(0), fault);
        due.is("its place", x.fault(1), place);
    }

    private static void counts(Due due) {
        due.of("Promise 33: count");
        due.by("How many there are of a sort.");
        FrostReplies x = new FrostReplies();
        for (int there = 0; there <= 2; there++) {
            for (int sort = 0; sort < 4; sort++) {
                due.is("count " + sort, x.count(sort), there);
                Say.tell(x, sort, NONE, FINE[sort]);
                due.is("count " + sort + " of one more", x.count(sort), Math.min(2, there + 1));
            }
        }
        due.by("-2 for another one.");
        for (int sort : new int[] {Due.MIN, -2, -1, 4, 5, Due.MAX}) {
            due.is("count " + sort, x.count(sort), -2);
            due.is("count " + sort + " of nothing", new FrostReplies().count(sort), -2);
        }
    }

    private static void images(Due due) {
        due.of("Promise 34: image");
        due.by("Image k (0 .. 2) is all that is told (the tape, the FAULT, too), as it is now: true");
        for (int k = 0; k < 3; k++) {
            for (int sort = 0; sort < 4; sort++) {
                FrostReplies x = new FrostReplies();
                Say.tell(x, sort, NONE, FINE[sort]);
                Say.tell(x, sort, NONE, "");
                due.is("image " + k, x.image(k), true);
                due.is("all is there still", many(x, sort, 0), 1);
                Say.tell(x, sort, 0, OTHER[sort]);
                Say.tell(x, sort, 1, FINE[sort]);
                due.is("again " + k, x.again(k), true);
                due.is("the first as it was", many(x, sort, 0), 1);
                due.is("the second as it was", many(x, sort, 1), 0);
                Say.tell(x, sort, 0, OTHER[sort]);
                due.is("taken anew", x.image(k), true);
                Say.tell(x, sort, 0, "");
                due.is("again " + k, x.again(k), true);
                due.is("as it was taken anew", many(x, sort, 0), 2);
            }
        }
        FrostReplies x = new FrostReplies();
        due.is("an image of nothing", x.image(1), true);
        Say.tell(x, Say.HILL, NONE, "word a 1;");
        due.is("again nothing", x.again(1), true);
        due.is("no hills", x.count(Say.HILL), 0);
        due.is("none to ask", x.hill(0, 0), NONE);
    }

    private static void imagesOfTape(Due due) {
        due.by("(the tape, the FAULT, too)");
        for (int length : new int[] {0, 1, 6, 7, 600}) {
            FrostReplies x = new FrostReplies();
            Say.tell(x, Say.LINES, NONE, "line g;");
            String text = length < 7 ? "line f;".substring(0, length) : "line f;" + Say.repeat(" ", length - 7);
            Say.tape(x, text);
            x.image(2);
            fault(due, x, 2, 5);
            Say.tape(x, Say.repeat("#", 20));
            x.text(Say.LOG, NONE);
            Say.tape(x, Say.repeat("#", 600));
            due.is("again", x.again(2), true);
            fault(due, x, 2, 5);
            due.is("no longer tape than " + length, x.end(length + 1), NONE);
            due.is("as long a tape as " + length, x.end(length), length);
            boolean whole = length >= 7 || length == 0;
            due.is("what was on it", x.text(Say.LINES, NONE), whole ? 0 : NONE);
            due.is("a line, if it is whole", x.line(0, 0, 0), length >= 7 ? 5 : -2);
            fault(due, x, whole ? 0 : 1, whole ? NONE : length < 4 ? 0 : length);
        }
    }

    private static void imagesRefused(Due due) {
        due.by("false for another k.");
        FrostReplies x = new FrostReplies();
        Say.tell(x, Say.LINES, NONE, "line f;");
        for (int k : new int[] {Due.MIN, -2, -1, 3, 4, Due.MAX}) {
            due.is("image " + k, x.image(k), false);
            due.is("again " + k, x.again(k), false);
        }
        for (int k = 0; k < 3; k++) {
            due.is("again " + k, x.again(k), false);
        }
        due.is("it stays", x.line(0, 0, 0), 5);
    }

    private static void again(Due due) {
        due.of("Promise 35: again");
        due.by("All that is as image k has it (other images stay): true");
        FrostReplies x = new FrostReplies();
        for (int k = 0; k < 3; k++) {
            Say.tell(x, Say.LINES, k == 0 ? NONE : 0, "line " + (char) ('a' + k) + ";");
            x.image(k);
        }
        for (int k : new int[] {0, 2, 1, 1, 0, 0, 2, 0, 1}) {
            due.is("again " + k, x.again(k), true);
            due.is("letter " + k, x.line(0, 0, 0), k);
        }
        x.again(0);
        x.image(2);
        due.is("again 1", x.again(1), true);
        due.is("letter b", x.line(0, 0, 0), 1);
        due.is("again 2", x.again(2), true);
        due.is("letter a", x.line(0, 0, 0), 0);
        due.by("false if there is none such.");
        FrostReplies y = due.told(Say.LINES, "line f;");
        y.image(1);
        due.instead(y, Say.LINES, "line e;");
        for (int k : new int[] {Due.MIN, -2, -1, 0, 2, 3, 4, Due.MAX}) {
            due.is("again " + k, y.again(k), false);
            due.is("it stays", y.line(0, 0, 0), 4);
        }
        due.is("again 1", y.again(1), true);
        due.is("the letter of image 1", y.line(0, 0, 0), 5);
    }
}
