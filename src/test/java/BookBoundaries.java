/** Boundaries of what a BOOK and a SENTENCE answer, and of images: promises 41 to 46. */
final class BookBoundaries {
    private static final int MIN = Integer.MIN_VALUE;
    private static final int MAX = Integer.MAX_VALUE;

    private BookBoundaries() {
    }

    static void check() {
        lives();
        wrongLines();
        judgedOrLived();
        reasons();
        reasonsOfFull();
        toldOthers();
        ones();
        said();
        saidNone();
        comparisons();
        likeAndBegins();
        andOr();
        imagePlaces();
        imagesKeepAll();
        restoreLeaves();
        restoreNone();
    }

    private static void lives() {
        Boundary.says(41, "-1000: another lives (the tape stays).");
        for (int lives : new int[] {-1, 2, 3, MIN, MAX}) {
            BitRopes x = Boundary.named();
            Check.book(x, "put a 9 1;", 0);
            Check.feed(x, "put a 0 1;");
            Boundary.due("book(" + lives + ")", x.book(lives), -1000);
            Boundary.due("tape", x.total(3), 10);
            Boundary.due("told(0) stays", x.told(0), 1);
            Boundary.due("told(2) stays", x.told(2), 5);
            Boundary.due("bits of all ROWS", x.total(2), 5);
            Boundary.due("book(1) of the same tape", x.book(1), -1);
            Boundary.due("bits of all ROWS", x.total(2), 6);
            Boundary.due("book(" + lives + ") of an empty tape", x.book(lives), -1000);
            Check.feed(x, "no LINE");
            Boundary.due("book(" + lives + ") with a FAULT", x.book(lives), -1000);
            Boundary.due("fault()", x.fault(), 0);
        }
    }

    private static void wrongLines() {
        Boundary.says(41, "the LINE (from 0) that is WRONG; NONE: none;");
        for (int lives = 0; lives <= 1; lives++) {
            Boundary.due("no LINES", Check.book(Boundary.named(), "", lives), -1);
            Boundary.due("blanks", Check.book(Boundary.named(), " \n ", lives), -1);
            Boundary.due("the only one", Check.book(Boundary.named(), "cut a 0 4;", lives), 0);
            Boundary.due("the first of two", Check.book(Boundary.named(), "cut a 0 4;cut a 0 4;", lives), 0);
            Boundary.due("the second", Check.book(Boundary.named(), "cut a 0 2;cut a 0 2;", lives), 1);
            Boundary.due("none of 40", Check.book(Boundary.named(), "type 0 0;".repeat(40), lives), -1);
            BitRopes x = Boundary.named();
            Boundary.due("the 40th", Check.book(x, "type 0 0;".repeat(39) + "type 43 0;", lives), 39);
            Boundary.due("told(1)", x.told(1), 39);
            Boundary.due("letters()", x.letters(), lives == 1 ? 42 : 3);
            x = Boundary.named();
            Boundary.due("40 lived", Check.book(x, "type 0 0;".repeat(39) + "type 42 0;", lives), -1);
            Boundary.due("told(1)", x.told(1), 40);
            Boundary.due("told(3)", x.told(3), 43);
        }
    }

    private static void judgedOrLived() {
        Boundary.says(41, "it is judged, all staying as it is (lives 0), or lived as far as it is not WRONG (1)");
        Boundary.says(41, "The tape is a BOOK:");
        String[] texts = {"put a 0 0;", "set a 0 0;", "cut a 0 3;", "turn a 0 3;", "join a abcdefg;", "split a 1 b;", "type 3 7;", "erase 0 3;"};
        String[] behind = {"0110:4/:/01:2/abc", "010:3/:/01:2/abc", ":/:/01:2/abc", "001:3/:/01:2/abc", "11001:5/:/:/abc",
            "1:1/10:2/01:2/abc", "110:3/:/01:2/abch", "110:3/:/01:2/"};
        for (int k = 0; k < texts.length; k++) {
            String due = behind[k];
            BitRopes x = Boundary.named();
            x.image(0);
            Boundary.due("judged: " + texts[k], Check.book(x, texts[k], 0), -1);
            Boundary.same("judged: " + texts[k], UndoBoundaries.all(x), "110:3/:/01:2/abc");
            Boundary.due("lived: " + texts[k], Check.book(x, texts[k], 1), -1);
            Boundary.same("lived: " + texts[k], UndoBoundaries.all(x), due);
            x.restore(0);
            Boundary.due("judged, then WRONG: " + texts[k], Check.book(x, texts[k] + "cut b 0 3;put a 0 0;", 0), 1);
            Boundary.same("judged, then WRONG: " + texts[k], UndoBoundaries.all(x), "110:3/:/01:2/abc");
            Boundary.due("lived as far: " + texts[k], Check.book(x, texts[k] + "cut b 0 3;put a 0 0;", 1), 1);
            Boundary.same("lived as far: " + texts[k], UndoBoundaries.all(x), due);
            x.restore(0);
            Boundary.due("WRONG ahead of it: " + texts[k], Check.book(x, "cut b 0 1;" + texts[k], 1), 0);
            Boundary.same("WRONG ahead of it: " + texts[k], UndoBoundaries.all(x), "110:3/:/01:2/abc");
            Boundary.due("undo() of none", x.undo(), -1);
        }
    }

    private static void reason(String text, int line, int why, int bits, int letters) {
        for (int lives = 0; lives <= 1; lives++) {
            BitRopes x = Boundary.named();
            Boundary.due(text, Check.book(x, text, lives), why == 0 ? -1 : line);
            Boundary.due("told(0) of " + text, x.told(0), why);
            Boundary.due("told(1) of " + text, x.told(1), line);
            Boundary.due("told(2) of " + text, x.told(2), bits);
            Boundary.due("told(3) of " + text, x.told(3), letters);
        }
    }

    private static void reasons() {
        Boundary.says(42, "0 why it was WRONG (0: it was not; 1, 2 putting, 11, 12 setting, 21 cutting, 31 turning, 41, 42 joining, 51, 52 splitting, "
            + "61, 62 typing, 71 erasing), 1 how many LINES are ahead of the one that is WRONG (all, if none is), 2 bits of all ROWS then, "
            + "3 LETTERS then.");
        reason("", 0, 0, 5, 3);
        reason("put a 3 1;", 1, 0, 6, 3);
        reason("put a 4 1;", 0, 1, 5, 3);
        reason("put b 1 1;", 0, 1, 5, 3);
        reason("put a 999 1;", 0, 1, 5, 3);
        reason("set a 2 1;set a 2 0;", 2, 0, 5, 3);
        reason("set a 3 1;", 0, 11, 5, 3);
        reason("set b 0 1;", 0, 11, 5, 3);
        reason("set a 0 1;", 0, 12, 5, 3);
        reason("set a 2 0;", 0, 12, 5, 3);
        reason("cut a 2 1;cut a 0 2;", 2, 0, 2, 3);
        reason("cut a 3 1;", 0, 21, 5, 3);
        reason("cut a 2 2;", 0, 21, 5, 3);
        reason("cut a 0 3;cut a 0 1;", 1, 21, 2, 3);
        reason("turn a 0 3;turn a 2 1;", 2, 0, 5, 3);
        reason("turn a 3 1;", 0, 31, 5, 3);
        reason("turn a 1 3;", 0, 31, 5, 3);
        reason("join b a;join a b;", 2, 0, 5, 3);
        reason("join a b;", 0, 41, 5, 3);
        reason("join b a;join abcdefg a;", 1, 41, 5, 3);
        reason("split a 2 b;split a 1 b;split a 0 b;", 3, 0, 5, 3);
        reason("split a 3 b;", 0, 51, 5, 3);
        reason("split b 0 a;", 0, 51, 5, 3);
        reason("type 3 0;type 0 7;", 2, 0, 5, 5);
        reason("type 4 0;", 0, 61, 5, 3);
        reason("type 999 0;", 0, 61, 5, 3);
        reason("erase 2 1;erase 0 2;", 2, 0, 5, 0);
        reason("erase 3 1;", 0, 71, 5, 3);
        reason("erase 1 3;", 0, 71, 5, 3);
        reason("put a 0 1;type 0 1;erase 0 4;erase 0 1;put a 0 1;", 3, 71, 6, 0);
    }

    private static void reasonFull(BitRopes x, String text, int why) {
        int bits = x.total(2);
        Boundary.due(text, Check.book(x, text, 0), why == 0 ? -1 : 0);
        Boundary.due("told(0) of " + text, x.told(0), why);
        Boundary.due("bits stay", x.total(2), bits);
    }

    private static void reasonsOfFull() {
        Boundary.says(42, "1, 2 putting");
        BitRopes x = Check.with("row a " + Check.manyBits(600) + ";row b oi;row c;");
        reasonFull(x, "put a 0 1;", 2);
        reasonFull(x, "put a 600 1;", 2);
        reasonFull(x, "put a 601 1;", 1);
        reasonFull(x, "set a 599 0;", 0);
        reasonFull(x, "set a 600 0;", 11);
        reasonFull(x, "cut a 0 600;", 0);
        reasonFull(x, "cut a 1 600;", 21);
        reasonFull(x, "turn a 599 1;", 0);
        reasonFull(x, "turn a 600 1;", 31);
        reasonFull(x, "join a b;", 42);
        reasonFull(x, "join a c;", 41);
        reasonFull(x, "join c a;", 0);
        Boundary.due("601 together", Check.book(x, "cut a 0 1;join a b;", 0), 1);
        Boundary.due("told(0) of 601 together", x.told(0), 42);
        Boundary.due("told(2) of 601 together", x.told(2), 601);
        reasonFull(x, "cut a 0 2;join a b;", 0);
        reasonFull(x, "split b 1 a;", 52);
        reasonFull(x, "split b 2 a;", 51);
        reasonFull(x, "split a 2 b;", 0);
        reasonFull(x, "split a 1 b;", 52);
        reasonFull(x, "split a 0 c;", 0);
        Check.room(x, "letters " + "abcdefg ".repeat(28) + "abcd;");
        reasonFull(x, "type 0 0;", 62);
        reasonFull(x, "type 200 0;", 62);
        reasonFull(x, "type 201 0;", 61);
        reasonFull(x, "erase 0 200;", 0);
        reasonFull(x, "erase 0 201;", 71);
        reasonFull(x, "erase 199 1;type 199 0;", 0);
    }

    private static void toldOthers() {
        Boundary.says(42, "NONE: another what, or ahead of any.");
        BitRopes x = Boundary.named();
        for (int what = -1; what <= 4; what++) {
            Boundary.due("told(" + what + ") ahead of any", x.told(what), -1);
        }
        Check.book(x, "put", 0);
        x.book(5);
        for (int what = 0; what < 4; what++) {
            Boundary.due("told(" + what + ") ahead of any but with a FAULT", x.told(what), -1);
        }
        Check.book(x, "put a 9 1;", 0);
        for (int what : new int[] {-1, 4, 5, MIN, MAX}) {
            Boundary.due("told(" + what + ")", x.told(what), -1);
        }
        Boundary.says(42, "Of the latest book() that had no FAULT (and was not -1000)");
        Check.book(x, "type 0 0;cut a 0 4;", 0);
        Check.book(x, "erase 0 9", 1);
        x.book(-1000);
        x.put(0, 0, 0);
        x.type(0, 0);
        Boundary.due("told(0)", x.told(0), 21);
        Boundary.due("told(1)", x.told(1), 1);
        Boundary.due("told(2)", x.told(2), 5);
        Boundary.due("told(3)", x.told(3), 4);
        Check.room(x, "row z;");
        Boundary.due("told(2) behind room()", x.told(2), 5);
        Check.book(x, "", 1);
        Boundary.due("told(0) of the latest", x.told(0), 0);
        Boundary.due("told(2) of the latest", x.told(2), 0);
    }

    private static void ones() {
        Boundary.says(43, "how many ONES (each not, bracket and other one)");
        Boundary.says(43, "The tape is the SENTENCE now");
        Boundary.sentence("empty", 1);
        Boundary.sentence("not empty", 2);
        Boundary.sentence("(empty)", 2);
        Boundary.sentence("not (not empty)", 4);
        Boundary.sentence("((empty or even) and (even))", 6);
        Boundary.sentence("size<1 and ones=2 or like a and begins b", 4);
        Boundary.says(43, "it stays.");
        BitRopes x = Boundary.named();
        Check.sentence(x, "size=2");
        for (String text : new String[] {"", "empty or", "not", "((empty)", "size>1 and like c", "even" + " or even".repeat(20), "8"}) {
            Boundary.due("a FAULT: " + text, Check.sentence(x, text) < 0, true);
            Boundary.due("said(-1)", x.said(-1), 1);
            Boundary.due("said(0)", x.said(0), 2);
        }
        Boundary.due("another", Check.sentence(x, "empty"), 1);
        Boundary.due("said(0)", x.said(0), 1);
    }

    private static void holds(BitRopes x, String text, String rows) {
        Check.sentence(x, text);
        Boundary.due("fault of " + text, x.fault(), 0);
        Boundary.due("said(-1) of " + text, x.said(-1), rows.length());
        for (int k = 0; k < rows.length(); k++) {
            Boundary.due("said(" + k + ") of " + text, x.said(k), rows.charAt(k) - '0');
        }
        Boundary.due("said(" + rows.length() + ") of " + text, x.said(rows.length()), -1);
    }

    private static void said() {
        Boundary.says(44, "ROWS of which it may be said: how many (k NONE), or the k-th (from 0).");
        Boundary.says(Document.TEXTS, "It is said of ROWS.");
        BitRopes x = Check.with("leaf 4;row a;row b i;row c oo;row d ioi;");
        holds(x, "number<4", "0123");
        holds(x, "number>3", "");
        holds(x, "number=0", "0");
        holds(x, "number=3", "3");
        holds(x, "empty", "0");
        holds(x, "not empty", "123");
        holds(x, "even", "023");
        holds(x, "not even", "1");
        x.put(0, 0, 1);
        Boundary.due("of the ROWS as they are", x.said(-1), 2);
        Boundary.due("of the ROWS as they are", x.said(0), 0);
        x.undo();
        Boundary.due("of the ROWS as they are", x.said(0), 1);
    }

    private static void saidNone() {
        Boundary.says(44, "there is no SENTENCE, none such.");
        BitRopes x = Boundary.named();
        for (int k : new int[] {-2, -1, 0, 1, MIN, MAX}) {
            Boundary.due("said(" + k + ") without a SENTENCE", x.said(k), -1);
        }
        Check.sentence(x, "or");
        Boundary.due("said(-1) with a FAULT alone", x.said(-1), -1);
        Check.sentence(x, "number<2");
        for (int k : new int[] {-2, 2, 3, MIN, MAX}) {
            Boundary.due("said(" + k + ")", x.said(k), -1);
        }
        BitRopes none = new BitRopes();
        Check.sentence(none, "empty or not empty");
        Boundary.due("said(-1) without ROWS", none.said(-1), 0);
        Boundary.due("said(0) without ROWS", none.said(0), -1);
    }

    private static void comparisons() {
        Boundary.says(Document.TEXTS, "( 'size' | 'ones' | 'runs' | 'leaves' | 'number' ) SIGN NUMBER. SIGN: < = >.");
        BitRopes x = Check.with("leaf 4;row a;row b ioiooii oo;row c iiiiiii i;row d " + Check.manyBits(300) + ";");
        int[][] values = {{0, 9, 8, 300}, {0, 4, 8, 150}, {0, 6, 1, 300}, {0, 2, 1, 60}, {0, 1, 2, 3}};
        String[] words = {"size", "ones", "runs", "leaves", "number"};
        for (int w = 0; w < 5; w++) {
            if (w == 2) {
                // Not more than 512 calls of one object.
                x = Check.with("leaf 4;row a;row b ioiooii oo;row c iiiiiii i;row d " + Check.manyBits(300) + ";");
            }
            for (int n : new int[] {0, 1, values[w][1], values[w][2], values[w][3], values[w][3] + 1, 999}) {
                StringBuilder less = new StringBuilder();
                StringBuilder like = new StringBuilder();
                StringBuilder more = new StringBuilder();
                for (int r = 0; r < 4; r++) {
                    (values[w][r] < n ? less : values[w][r] == n ? like : more).append(r);
                }
                holds(x, words[w] + "<" + n, less.toString());
                holds(x, words[w] + "=" + n, like.toString());
                holds(x, words[w] + ">" + n, more.toString());
            }
        }
    }

    private static void likeAndBegins() {
        Boundary.says(Document.TEXTS, "'like' ROW (the same bits) | 'begins' ROW (that one is the beginning of it, or the same)");
        BitRopes x = Check.with("leaf 4;row a;row b io;row c ioi;row d iii;");
        holds(x, "like a", "0");
        holds(x, "like b", "1");
        holds(x, "like c", "2");
        holds(x, "begins a", "0123");
        holds(x, "begins b", "12");
        holds(x, "begins c", "2");
        holds(x, "begins d", "3");
        x.put(1, 2, 1);
        holds(x, "like b", "12");
        holds(x, "like c", "12");
        x.set(1, 2, 0);
        holds(x, "like c", "2");
        holds(x, "begins b", "1");
        x = Check.with("leaf 4;row a iiiiiii ii;row b;");
        for (int k = 0; k < 9; k++) {
            x.put(1, 0, 1);
        }
        x.cut(1, 0, 1);
        x.put(1, 0, 1);
        holds(x, "like a", "01");
        x.put(1, 0, 1);
        Boundary.same("other LEAVES", Check.leaves(x, 0) + "/" + Check.leaves(x, 1), "5 4/6 4");
        x.cut(1, 9, 1);
        holds(x, "like a and begins b and like b", "01");
    }

    private static void andOr() {
        Boundary.says(Document.TEXTS, "COND: ALL { 'or' ALL }. ALL: ONE { 'and' ONE }. ONE: 'not' ONE | ( COND )");
        BitRopes x = Check.with("row a;row b i;row c oo;row d ioi;");
        String[] one = {"number=0", "number<2", "number>1", "number=3"};
        boolean[][] is = new boolean[4][4];
        for (int r = 0; r < 4; r++) {
            is[0][r] = r == 0;
            is[1][r] = r < 2;
            is[2][r] = r > 1;
            is[3][r] = r == 3;
        }
        for (int k = 0; k < 64; k++) {
            if (k % 16 == 0) {
                x = Check.with("row a;row b i;row c oo;row d ioi;");
            }
            int p = k & 3;
            int q = k >> 2 & 3;
            int s = k >> 4;
            StringBuilder andOr = new StringBuilder();
            StringBuilder orAnd = new StringBuilder();
            StringBuilder inside = new StringBuilder();
            StringBuilder not = new StringBuilder();
            for (int r = 0; r < 4; r++) {
                andOr.append(is[p][r] && is[q][r] || is[s][r] ? "" + r : "");
                orAnd.append(is[p][r] || is[q][r] && is[s][r] ? "" + r : "");
                inside.append((is[p][r] || is[q][r]) && is[s][r] ? "" + r : "");
                not.append(!is[p][r] && is[q][r] || !(is[p][r] || is[s][r]) ? "" + r : "");
            }
            holds(x, one[p] + " and " + one[q] + " or " + one[s], andOr.toString());
            holds(x, one[p] + " or " + one[q] + " and " + one[s], orAnd.toString());
            holds(x, "(" + one[p] + " or " + one[q] + ") and " + one[s], inside.toString());
            holds(x, "not " + one[p] + " and " + one[q] + " or not(" + one[p] + " or " + one[s] + ")", not.toString());
        }
        x = Check.with("row a;row b i;row c oo;row d ioi;");
        holds(x, "not not empty", "0");
        holds(x, "not not not empty", "123");
        holds(x, "empty or empty and even or number=3 or empty", "03");
        holds(x, "even and even and even and not empty and number=2", "2");
        holds(x, "number=9 or number=9 and even or number=9 or number=9 and even or number=2", "2");
        holds(x, "((number=1 or number=2) and (number=2 or number=3)) or number=0", "02");
        holds(x, "even" + " and even".repeat(18) + " and empty", "0");
        holds(x, "empty" + " or empty".repeat(19), "0");
        holds(x, "not(not(not(not even)))", "023");
        holds(x, "((((((not even))))))", "1");
    }

    private static void imagePlaces() {
        Boundary.says(45, "ROOM, all that is so and the SENTENCE are kept in place k (0, 1): true; false: no such one.");
        Boundary.says(46, "false: no such one, or nothing is kept there.");
        BitRopes x = Boundary.named();
        for (int k : new int[] {-1, 2, 3, MIN, MAX}) {
            Boundary.due("image(" + k + ")", x.image(k), false);
            Boundary.due("restore(" + k + ")", x.restore(k), false);
        }
        Boundary.due("restore(0) of nothing", x.restore(0), false);
        Boundary.due("restore(1) of nothing", x.restore(1), false);
        Boundary.due("image(1)", x.image(1), true);
        Boundary.due("restore(0) of nothing", x.restore(0), false);
        Boundary.due("restore(1)", x.restore(1), true);
        Boundary.due("image(0)", x.image(0), true);
        Boundary.due("restore(0)", x.restore(0), true);
        Boundary.due("restore(0) again", x.restore(0), true);
        BitRopes none = new BitRopes();
        Boundary.due("image(0) without ROWS", none.image(0), true);
        Check.room(none, "row a i;letters a;");
        Boundary.due("restore(0) without ROWS", none.restore(0), true);
        Boundary.due("total(0)", none.total(0), 0);
        Boundary.due("letters()", none.letters(), 0);
    }

    private static void imagesKeepAll() {
        Boundary.says(45, "ROOM, all that is so and the SENTENCE are kept in place k (0, 1)");
        BitRopes x = Boundary.named();
        Check.sentence(x, "size=2");
        x.cut(0, 0, 1);
        x.type(3, 7);
        x.image(0);
        Boundary.due("what can be undone stays", x.undo(), 1);
        Check.room(x, "leaf 32;row z oooo;row y i;row x;row w i;letters hh;");
        Check.sentence(x, "like z or like w");
        x.image(1);
        x.put(0, 0, 1);
        Check.sentence(x, "empty");
        for (int k = 0; k < 2; k++) {
            Boundary.due("restore(0)", x.restore(0), true);
            Boundary.same("all of 0", UndoBoundaries.all(x), "10:2/:/01:2/abch");
            Boundary.due("LOW of 0", x.total(1), 4);
            Boundary.due("ROWS of 0", x.total(0), 3);
            Boundary.due("SENTENCE of 0", x.said(0) * 10 + x.said(1), 2);
            Boundary.due("NAMES of 0", Check.book(x, "put a 0 1;put b 0 1;put abcdefg 0 1;", 1), -1);
            Boundary.due("NAMES of 0 alone", Check.book(x, "put z 0 1;", 1), -6);
            Boundary.due("restore(1)", x.restore(1), true);
            Boundary.same("all of 1", UndoBoundaries.all(x), "0000:4/1:1/:/1:1/hh");
            Boundary.due("LOW of 1", x.total(1), 32);
            Boundary.due("SENTENCE of 1", x.said(-1) * 100 + x.said(0) * 10 + x.said(1), 301);
            Boundary.due("NAMES of 1", Check.book(x, "put z 0 1;put y 0 1;put x 0 1;put w 0 1;", 1), -1);
        }
        Boundary.due("restore(0)", x.restore(0), true);
        x.put(0, 0, 1);
        Boundary.due("image(1) again", x.image(1), true);
        x.cut(0, 0, 3);
        Boundary.due("restore(1)", x.restore(1), true);
        Boundary.same("all of the latest 1", UndoBoundaries.all(x), "110:3/:/01:2/abch");
        Boundary.due("restore(0)", x.restore(0), true);
        Boundary.same("all of 0", UndoBoundaries.all(x), "10:2/:/01:2/abch");
        // LOW is as it was: LEAVES split as by 4.
        Check.bits(x, "1111111");
        x.paste(0, 0);
        Boundary.same("leaves", Check.leaves(x, 0), "5 4");
    }

    private static void restoreLeaves() {
        Boundary.says(46, "They are as kept in place k (the tape, and what other calls told last, stays; nothing can be undone): true");
        BitRopes x = Boundary.named();
        x.image(0);
        Check.sentence(x, "size=2");
        Check.bits(x, "1");
        x.seek(0);
        Check.book(x, "type 0 0;cut a 0 4;", 0);
        x.put(0, 0, 0);
        x.put(0, 0, 0);
        Check.sentence(x, "like q");
        Check.feed(x, "put a 0 1;");
        Boundary.due("restore(0)", x.restore(0), true);
        Boundary.due("tape", x.total(3), 10);
        Boundary.due("fault()", x.fault(), 3);
        Boundary.due("told(0)", x.told(0), 21);
        Boundary.due("told(1)", x.told(1), 1);
        Boundary.due("told(2)", x.told(2), 5);
        Boundary.due("told(3)", x.told(3), 4);
        Boundary.due("seekAt(1)", x.seekAt(1), 1);
        Boundary.due("no SENTENCE", x.said(-1), -1);
        Boundary.due("undo()", x.undo(), -1);
        Boundary.same("ROW", Check.row(x, 0), "110");
        Boundary.due("the tape that stayed", x.book(1), -1);
        Boundary.same("ROW", Check.row(x, 0), "1110");
        Boundary.due("undo() of it", x.undo(), 0);
    }

    private static void restoreNone() {
        Boundary.says(46, "false: no such one, or nothing is kept there.");
        BitRopes x = Boundary.named();
        Check.sentence(x, "size=4");
        x.put(0, 0, 0);
        for (int k : new int[] {-1, 0, 1, 2}) {
            Boundary.due("restore(" + k + ")", x.restore(k), false);
            Boundary.same("all stays", UndoBoundaries.all(x), "0110:4/:/01:2/abc");
            Boundary.due("SENTENCE", x.said(0), 0);
        }
        Boundary.due("undo() stays", x.undo(), 0);
    }
}
