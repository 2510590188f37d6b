/** Boundaries of the tape and the ROOM: promises 1 to 5 and 47. */
final class TapeBoundaries {
    private static final int MIN = Integer.MIN_VALUE;
    private static final int MAX = Integer.MAX_VALUE;

    private TapeBoundaries() {
    }

    static void check() {
        newObject();
        feedBytes();
        feedLimits();
        end();
        endOfTexts();
        tapesTaken();
        roomStays();
        newRoom();
        roomsInTurn();
        faults();
        totals();
        manyCalls();
    }

    private static void newObject() {
        Boundary.says(1, "A ROOM without ROWS; an empty tape.");
        Boundary.says(1, "`BitRopes()`:");
        BitRopes x = new BitRopes();
        Boundary.due("total(0)", x.total(0), 0);
        Boundary.due("total(1)", x.total(1), 8);
        Boundary.due("total(2)", x.total(2), 0);
        Boundary.due("total(3)", x.total(3), 0);
        Boundary.due("size(0)", x.size(0), -1);
        Boundary.due("letters()", x.letters(), 0);
        Boundary.due("fault()", x.fault(), 0);
        Boundary.due("undo()", x.undo(), -1);
        Boundary.due("said(-1)", x.said(-1), -1);
        Boundary.due("seekAt(0)", x.seekAt(0), -1);
        Boundary.due("restore(0)", x.restore(0), false);
        Boundary.due("restore(1)", x.restore(1), false);
        for (int what = 0; what < 4; what++) {
            Boundary.due("told(" + what + ")", x.told(what), -1);
        }
        Boundary.due("feed", x.feed(0, 0, 0, 0, 0), 20);
        Boundary.due("another new one", new BitRopes().total(3), 0);
    }

    private static void feedBytes() {
        Boundary.says(2, "Twenty bytes come behind the tape, of each number the highest first: how many it has");
        for (int p = 0; p < 20; p++) {
            int[] five = new int[5];
            five[p / 4] = 1 << (24 - p % 4 * 8);
            BitRopes x = Check.with("row a;");
            x.feed(0, 0, 0, 0, 0);
            x.feed(five[0], five[1], five[2], five[3], five[4]);
            Boundary.due("paste", x.paste(0, 0), 0);
            Boundary.same("byte " + p, Check.row(x, 0), "0".repeat(20 + p) + "1" + "0".repeat(19 - p));
            // Any other byte than 0 and 1 is none of a bit, the signs of numbers too.
            five[p / 4] = 0x80 << (24 - p % 4 * 8);
            x.feed(five[0], five[1], five[2], five[3], five[4]);
            Boundary.due("paste with byte 128", x.paste(0, 0), -1);
            five[p / 4] = 0xFF << (24 - p % 4 * 8);
            x.feed(five[0], five[1], five[2], five[3], five[4]);
            Boundary.due("paste with byte 255", x.paste(0, 0), -1);
        }
        BitRopes x = new BitRopes();
        Boundary.due("the greatest", x.feed(-1, MIN, MAX, 0, 1), 20);
        Boundary.due("room of it", x.room(), -1);
        Boundary.due("fault of it", x.fault(), 1);
    }

    private static void feedLimits() {
        Boundary.says(2, "NONE, and none come, if it would have more than 940.");
        BitRopes x = new BitRopes();
        for (int k = 1; k <= 47; k++) {
            Boundary.due("feed " + k, x.feed(0x20202020, 0x20202020, 0x20202020, 0x20202020, 0x20202020), 20 * k);
        }
        Boundary.due("feed 48", x.feed(0, 0, 0, 0, 0), -1);
        Boundary.due("total(3)", x.total(3), 940);
        for (int n = 939; n > 920; n--) {
            Boundary.due("end", x.end(n), true);
            Boundary.due("feed behind " + n, x.feed(0, 0, 0, 0, 0), -1);
            Boundary.due("total(3)", x.total(3), n);
        }
        x.end(920);
        Boundary.due("feed behind 920", x.feed(0, 0, 0, 0, 0), 940);
        x.end(919);
        Boundary.due("feed behind 919", x.feed(0x41000000, 0, 0, 0, 0), 939);
        x.end(900);
        Boundary.due("room of blanks", x.room(), 0);
        Boundary.due("the tape is empty", x.feed(0, 0, 0, 0, 0), 20);
    }

    private static void end() {
        Boundary.says(3, "The tape has its first n bytes alone: true; false, if it has not so many, or n is below 0.");
        BitRopes x = new BitRopes();
        Boundary.due("end(0) of none", x.end(0), true);
        Boundary.due("end(1) of none", x.end(1), false);
        x.feed(0x01000100, 0x01010000, 0, 0, 0x00000001);
        for (int n : new int[] {-1, 21, 22, MIN, MAX}) {
            Boundary.due("end(" + n + ")", x.end(n), false);
            Boundary.due("total(3)", x.total(3), 20);
        }
        Boundary.due("end(20)", x.end(20), true);
        Boundary.due("total(3)", x.total(3), 20);
        Boundary.due("end(5)", x.end(5), true);
        Boundary.due("total(3)", x.total(3), 5);
        Boundary.due("end(6)", x.end(6), false);
        Boundary.due("feed behind 5", x.feed(0x00010101, 0, 0, 0, 0), 25);
        Boundary.due("end(10)", x.end(10), true);
        BitRopes y = Check.with("row a;");
        y.feed(0x01000100, 0x01010000, 0, 0, 0x00000001);
        y.end(5);
        y.feed(0x00010101, 0, 0, 0, 0);
        y.end(10);
        y.paste(0, 0);
        Boundary.same("the first alone", Check.row(y, 0), "1010101110");
        Boundary.due("end(0)", x.end(0), true);
        Boundary.due("total(3)", x.total(3), 0);
        Boundary.due("end(1)", x.end(1), false);
    }

    /** Bytes that were cut off are none of what is read next, not even of its last TOKEN. */
    private static void endOfTexts() {
        Boundary.says(3, "The tape has its first n bytes alone: true");
        BitRopes x = new BitRopes();
        Check.feed(x, "row abc;row d iX");
        x.end(8);
        Boundary.due("room", x.room(), 1);
        Check.feed(x, "row abc ii;row d iX");
        x.end(10);
        Boundary.due("room without its ;", x.room(), -11);
        Check.feed(x, "row abc;row d i;X");
        x.end(16);
        Boundary.due("room", x.room(), 2);
        Check.feed(x, "put d 0 1;put d 0 1;");
        x.end(19);
        Boundary.due("book without its ;", x.book(1), -21);
        Check.feed(x, "put d 0 1;put d 0 1;");
        x.end(10);
        Boundary.due("book", x.book(1), -1);
        Boundary.due("size(1)", x.size(1), 2);
        Check.feed(x, "size=25");
        x.end(6);
        Boundary.due("sentence", x.sentence(), 1);
        Boundary.due("said(0)", x.said(0), 1);
        Check.feed(x, new int[] {1, 1, 2, 1});
        x.end(2);
        Boundary.due("seek", x.seek(1), 1);
        Check.feed(x, new int[] {0, 1, 2, 1});
        x.end(2);
        Boundary.due("paste", x.paste(1, 2), 0);
        Boundary.same("ROW", Check.row(x, 1), "1101");
    }

    private static void tapesTaken() {
        Boundary.says(4, "The tape (empty then, with a FAULT, too, here and below) is the ROOM now: how many LINES");
        BitRopes x = new BitRopes();
        Boundary.due("room", Check.room(x, "row a;row b;"), 2);
        Boundary.due("tape", x.total(3), 0);
        Boundary.due("room with a FAULT", Check.room(x, "row c"), -6);
        Boundary.due("tape", x.total(3), 0);
        for (int lives = 0; lives <= 1; lives++) {
            Boundary.due("book", Check.book(x, "put a 0 1;", lives), -1);
            Boundary.due("tape", x.total(3), 0);
            Boundary.due("book that is WRONG", Check.book(x, "put a 9 1;", lives), 0);
            Boundary.due("tape", x.total(3), 0);
            Boundary.due("book with a FAULT", Check.book(x, "put a", lives), -7);
            Boundary.due("tape", x.total(3), 0);
        }
        Boundary.due("sentence", Check.sentence(x, "even"), 1);
        Boundary.due("tape", x.total(3), 0);
        Boundary.due("sentence with a FAULT", Check.sentence(x, "odd"), -1);
        Boundary.due("tape", x.total(3), 0);
        Check.bits(x, "1");
        Boundary.due("seek", x.seek(0), 1);
        Boundary.due("tape", x.total(3), 0);
        Check.bits(x, "1");
        Boundary.due("paste", x.paste(0, 0), 0);
        Boundary.due("tape", x.total(3), 0);
        Check.bits(x, "1");
        Boundary.due("paste at no place", x.paste(0, 9), 1);
        Boundary.due("tape", x.total(3), 0);
    }

    private static void roomStays() {
        Boundary.says(4, "-1 less the place of a FAULT: it stays.");
        BitRopes x = Boundary.named();
        Check.sentence(x, "size=2");
        x.put(1, 0, 1);
        x.type(0, 7);
        x.image(0);
        for (String text : new String[] {"x", "leaf 5;x", "row n i;row m i;row a i;row b i;letters d;leaf 4;", "leaf 9;row a ;row a;"}) {
            Boundary.due("room", Check.room(x, text) < 0, true);
            Boundary.same("ROWS", Check.row(x, 0) + "/" + Check.row(x, 1) + "/" + Check.row(x, 2), "110/1/01");
            Boundary.same("LETTERS", Check.script(x), "habc");
            Boundary.due("LOW", x.total(1), 4);
            Boundary.due("ROWS", x.total(0), 3);
            Boundary.due("SENTENCE", x.said(0), 2);
            Boundary.due("NAMES", Check.book(x, "put a 0 1;put b 0 1;put abcdefg 0 1;", 0), -1);
        }
        Boundary.due("undo()", x.undo(), 1);
        Boundary.due("undo()", x.undo(), 0);
        Boundary.due("restore(0)", x.restore(0), true);
    }

    private static void newRoom() {
        Boundary.says(Document.TREES, "A new ROOM: ROWS and LETTERS as told, no SENTENCE; nothing can be undone.");
        BitRopes x = Boundary.named();
        Check.sentence(x, "empty");
        x.put(1, 0, 1);
        x.put(1, 0, 1);
        Boundary.due("room", Check.room(x, "row z i;"), 1);
        Boundary.due("undo()", x.undo(), -1);
        Boundary.due("said(-1)", x.said(-1), -1);
        Boundary.due("total(0)", x.total(0), 1);
        Boundary.due("total(1)", x.total(1), 8);
        Boundary.due("total(2)", x.total(2), 1);
        Boundary.due("letters()", x.letters(), 0);
        Boundary.due("size(1)", x.size(1), -1);
        Boundary.due("size(2)", x.size(2), -1);
        Boundary.due("a NAME of the ROOM ahead", Check.book(x, "put a 0 1;", 1), -6);
        x.put(0, 0, 1);
        Check.sentence(x, "empty");
        Boundary.due("room of no LINES", Check.room(x, ""), 0);
        Boundary.due("undo()", x.undo(), -1);
        Boundary.due("said(-1)", x.said(-1), -1);
        Boundary.due("total(0)", x.total(0), 0);
        Boundary.due("leaves(0)", x.leaves(0), -1);
    }

    /** Nothing of a ROOM ahead is left, nor of a text with a FAULT. */
    private static void roomsInTurn() {
        Boundary.says(Document.TREES, "A new ROOM: ROWS and LETTERS as told");
        BitRopes x = new BitRopes();
        String[] fine = {"leaf 32;row a i;row b ii;row c;row d;letters abc;", "row b ooo;", "leaf 4;row c;letters h;", "", "letters;row d io;"};
        int[] rows = {4, 1, 1, 0, 1};
        int[] low = {32, 8, 4, 8, 8};
        int[] bits = {3, 3, 0, 0, 2};
        int[] letters = {3, 0, 1, 0, 0};
        String[] wrong = {"leaf 31;row a i;row b ii;row c;row d;letters abc;X", "leaf 33;", "leaf 30;X", "letters abcdefg;letters", "row z io io X"};
        for (int k = 0; k < 60; k++) {
            int now = (3 * k + k / 5) % 5;
            if (k % 3 != 0) {
                Boundary.due("room with a FAULT", Check.room(x, wrong[k % 5]) < 0, true);
            }
            Boundary.due("room " + fine[now], Check.room(x, fine[now]) >= 0, true);
            Boundary.due("ROWS", x.total(0), rows[now]);
            Boundary.due("LOW", x.total(1), low[now]);
            Boundary.due("bits", x.total(2), bits[now]);
            Boundary.due("LETTERS", x.letters(), letters[now]);
            if (k % 20 == 19) {
                // Not more than 512 calls of one object.
                x = new BitRopes();
            }
        }
    }

    private static void faults() {
        Boundary.says(5, "The kind of the FAULT of the latest room(), book() or sentence() (a book() of -1000 leaves it)");
        BitRopes x = Boundary.named();
        Check.room(x, "leaf 3;");
        Boundary.due("of room()", x.fault(), 2);
        Check.book(x, "put c 0 1;", 0);
        Boundary.due("of book()", x.fault(), 3);
        for (int lives : new int[] {-1, 2, MIN, MAX}) {
            Check.feed(x, "put a 0 1;");
            Boundary.due("book(" + lives + ")", x.book(lives), -1000);
            Boundary.due("behind book(" + lives + ")", x.fault(), 3);
        }
        Check.sentence(x, "or");
        Boundary.due("of sentence()", x.fault(), 1);
        Check.room(x, "row a;row b;row c;row d;row e;");
        Boundary.due("of room()", x.fault(), 4);
        x.put(0, 99, 1);
        x.undo();
        x.image(0);
        x.restore(0);
        x.end(0);
        Check.bits(x, "2");
        x.seek(0);
        Boundary.due("behind other calls", x.fault(), 4);
        Boundary.says(5, "0 without one and ahead of any.");
        Boundary.due("ahead of any", new BitRopes().fault(), 0);
        Check.book(x, "put a 9 1;", 0);
        Boundary.due("of a book() that is WRONG", x.fault(), 0);
        Check.sentence(x, "or");
        Check.sentence(x, "even");
        Boundary.due("of sentence() without one", x.fault(), 0);
        Check.sentence(x, "or");
        Check.room(x, "");
        Boundary.due("of room() without one", x.fault(), 0);
        Check.sentence(x, "or");
        Check.book(x, "", 1);
        Boundary.due("of book() without one", x.fault(), 0);
        Check.feed(x, "put");
        x.book(7);
        Boundary.due("behind -1000", x.fault(), 0);
    }

    private static void totals() {
        Boundary.says(47, "0 ROWS, 1 LOW, 2 bits of all ROWS, 3 bytes of the tape.");
        BitRopes x = Check.with("leaf 32;row a iio;row b;row c oi;row d i;letters abc;");
        x.feed(0, 0, 0, 0, 0);
        x.end(7);
        Boundary.due("total(0)", x.total(0), 4);
        Boundary.due("total(1)", x.total(1), 32);
        Boundary.due("total(2)", x.total(2), 6);
        Boundary.due("total(3)", x.total(3), 7);
        Boundary.says(47, "NONE for another what.");
        for (int what : new int[] {-1, 4, 5, MIN, MAX}) {
            Boundary.due("total(" + what + ")", x.total(what), -1);
        }
    }

    /** The document's 512 calls of one object, with the deeds that move most. */
    private static void manyCalls() {
        Boundary.says(39, "(8 at most are kept)");
        BitRopes x = Check.with("leaf 4;row a " + Check.manyBits(300) + ";row b " + Check.manyBits(300) + ";row c;");
        for (int k = 0; k < 110; k++) {
            Boundary.due("join(2, 0)", x.join(2, 0), 0);
            Boundary.due("join(2, 1)", x.join(2, 1), 0);
            Boundary.due("split(2, 300, 1)", x.split(2, 300, 1), 0);
            Boundary.due("split(2, 0, 0)", x.split(2, 0, 0), 0);
        }
        Boundary.same("a as told", Check.leaves(x, 0), "5 ".repeat(59) + "5");
        Boundary.due("b as told", x.leaf(1, 59, 0), 5);
        Boundary.due("undo()", x.undo(), 7);
    }
}
