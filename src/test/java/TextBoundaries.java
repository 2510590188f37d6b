/** Boundaries of the texts: TOKENS, ROOM, BOOK, SENTENCE and their FAULTS. */
final class TextBoundaries {
    private static final String[] TOLD = {"leaf", "row", "letters", "put", "set", "cut", "turn", "join", "split", "type",
        "erase", "or", "and", "not", "empty", "even", "like", "begins", "size", "ones", "runs", "leaves", "number"};

    private TextBoundaries() {
    }

    static void check() {
        blanks();
        wordsAndNumbers();
        whereTokensEnd();
        roomLengths();
        leafLines();
        bits();
        letters();
        names();
        rows();
        bookLengths();
        bookLines();
        bookNumbers();
        sentenceLengths();
        sentenceForms();
        sentenceCounts();
        firstFaults();
        faultsOfTokens();
        faultsAtTheEnd();
        faultsOfLongTexts();
        faultsOfNumbers();
        faultsOfNames();
        faultsOfTooMany();
    }

    private static void blanks() {
        Boundary.says(Document.TEXTS, "with blanks (32, 10) between them or not");
        Boundary.room(" \n row \n\n a  io\noi\n; \n", 1);
        Boundary.room("\n\n", 0);
        Boundary.room("leaf 4;row a io;letters ab;", 3);
        Boundary.book("put a 0 1;set b\n0\n0\n;\n", 1);
        Boundary.sentence("not(size<5 or(empty)and\neven\n)", 6);
        Boundary.says(Document.TEXTS, "what is not as told is no TOKEN");
        for (int c = 0; c < 256; c++) {
            BitRopes x = new BitRopes();
            int[] text = {'r', 'o', 'w', ' ', 'a', ' ', c, ' ', ';'};
            Check.feed(x, text);
            boolean small = c >= 'a' && c <= 'z';
            boolean fine = c == 32 || c == 10 || c == 'i' || c == 'o';
            Boundary.due("room with byte " + c, x.room(), fine ? 1 : c == ';' ? -9 : -7);
            Boundary.due("fault of byte " + c, x.fault(), fine ? 0 : small ? 2 : 1);
        }
        for (int c = 0; c < 256; c++) {
            BitRopes x = Boundary.named();
            int[] text = {'s', 'i', 'z', 'e', c, '3'};
            Check.feed(x, text);
            boolean sign = c == '<' || c == '=' || c == '>';
            boolean longer = c >= 'a' && c <= 'z' || c >= '0' && c <= '9';
            Boundary.due("sentence with byte " + c, x.sentence(), sign ? 1 : longer ? -1 : c == 32 || c == 10 ? -6 : -5);
            Boundary.due("fault of byte " + c, x.fault(), sign ? 0 : 1);
        }
    }

    private static void wordsAndNumbers() {
        Boundary.says(Document.TEXTS, "small letters, 1 to 7");
        Boundary.room("row a i;row abcdefg ioioioi;row z;letters h abcdefg;", 4);
        Boundary.roomFault("row abcdefgh;", 1, 4);
        Boundary.roomFault("row a ioioioio;", 1, 6);
        Boundary.roomFault("row a;letters abcdefgh;", 1, 14);
        Boundary.roomFault("row " + "a".repeat(20) + ";", 1, 4);
        Boundary.roomFault("letterss;", 1, 0);
        Boundary.book("put a 0 1;put abcdefg 0 1;", -1);
        Boundary.bookFault("put abcdefgh 0 1;", 1, 4);
        Boundary.bookFault("put abcdef 0 1;", 3, 4);
        Boundary.bookFault("put abcdefh 0 1;", 3, 4);
        Boundary.sentence("like abcdefg", 1);
        Boundary.sentenceFault("like abcdefgh", 1, 5);
        Boundary.sentenceFault("like bbcdefg", 3, 5);
        Boundary.says(Document.TEXTS, "1 to 3 digits");
        Boundary.room("leaf 4;", 1);
        Boundary.room("leaf 04;", 1);
        Boundary.room("leaf 004;", 1);
        Boundary.roomFault("leaf 0004;", 1, 5);
        // As ints of 32 bits these would be 4 again.
        Boundary.roomFault("leaf 4294967300;", 1, 5);
        Boundary.roomFault("leaf 18446744073709551620;", 1, 5);
        Boundary.book("put a 000 001;", -1);
        Boundary.bookFault("put a 0000 1;", 1, 6);
        Boundary.bookFault("put a 0 0001;", 1, 8);
        Boundary.bookFault("put a 4294967296 1;", 1, 6);
        Boundary.sentence("size=0 or size=00 or size=000 or size=999", 4);
        Boundary.sentenceFault("size=0000", 1, 5);
        Boundary.sentenceFault("size=1000", 1, 5);
    }

    private static void whereTokensEnd() {
        Boundary.says(Document.TEXTS, "goes on as long as small letters and digits do");
        Boundary.roomFault("leaf4;", 1, 0);
        Boundary.roomFault("leaf 4x;", 1, 5);
        Boundary.roomFault("leaf x4;", 1, 5);
        Boundary.roomFault("row a1;", 1, 4);
        Boundary.roomFault("row 1a;", 1, 4);
        Boundary.roomFault("row a io1;", 1, 6);
        Boundary.roomFault("row a 1oi;", 1, 6);
        Boundary.roomFault("rowa;", 1, 0);
        Boundary.roomFault("row letters2;", 1, 4);
        Boundary.bookFault("put a 0 1x;", 1, 8);
        Boundary.bookFault("put a0 1;", 1, 4);
        Boundary.bookFault("put a 0x1;", 1, 6);
        Boundary.sentenceFault("size=5or empty", 1, 5);
        Boundary.sentenceFault("emptyor even", 1, 0);
        Boundary.sentenceFault("notempty", 1, 0);
        Boundary.sentence("not(empty)or(even)", 5);
        Boundary.says(Document.TEXTS, "; < = > ( ) .");
        for (String sign : new String[] {"<", "=", ">", "(", ")", ".", ";"}) {
            Boundary.roomFault(sign, 1, 0);
            Boundary.roomFault("row a" + sign + sign, 1, sign.equals(";") ? 6 : 5);
            Boundary.bookFault("put" + sign + "a 0 1;", 1, 3);
            Boundary.sentenceFault("even" + sign, 1, 4);
        }
    }

    private static void roomLengths() {
        Boundary.says(Document.TEXTS, "A ROOM is a text of at most 900 bytes: { LINE ; }.");
        Boundary.room("", 0);
        Boundary.room("row a;", 1);
        Boundary.room("leaf 4;row a;row b;row c;row d;letters a;", 6);
        Boundary.room("row a;" + " ".repeat(893), 1);
        Boundary.room("row a;" + " ".repeat(894), 1);
        Boundary.roomFault("row a;" + " ".repeat(895), 1, 900);
        Boundary.roomFault(" ".repeat(901), 1, 900);
        Boundary.roomFault("row a;" + " ".repeat(934), 1, 900);
        Boundary.room(" ".repeat(894) + "row a;", 1);
        Boundary.roomFault("row a", 1, 5);
        Boundary.roomFault("row a;row b", 1, 11);
        Boundary.roomFault("row a;;", 1, 6);
        Boundary.roomFault("a;", 1, 0);
        Boundary.roomFault("4;", 1, 0);
    }

    private static void leafLines() {
        Boundary.says(Document.TEXTS, "'leaf' N (4 to 32: LOW; once, ahead of all others; 8 without)");
        Boundary.roomFault("leaf 0;", 2, 5);
        Boundary.roomFault("leaf 3;", 2, 5);
        Boundary.roomFault("leaf 33;", 2, 5);
        Boundary.roomFault("leaf 999;", 2, 5);
        for (int low = 4; low <= 32; low++) {
            BitRopes x = Check.with("leaf " + low + ";row a " + Check.manyBits(2 * low) + ";row b " + Check.manyBits(2 * low + 1) + ";");
            Boundary.due("total(1) of leaf " + low, x.total(1), low);
            Boundary.same("leaves of 2 by " + low, Check.leaves(x, 0), "" + 2 * low);
            Boundary.same("leaves of one more", Check.leaves(x, 1), low + 1 + " " + low);
        }
        BitRopes x = Check.with("leaf 32;");
        Check.room(x, "row a " + Check.manyBits(16) + ";row b " + Check.manyBits(17) + ";");
        Boundary.due("total(1) without", x.total(1), 8);
        Boundary.same("leaves without", Check.leaves(x, 0) + "/" + Check.leaves(x, 1), "16/9 8");
        Boundary.roomFault("leaf 4;leaf 4;", 3, 7);
        Boundary.roomFault("row a;leaf 4;", 3, 6);
        Boundary.roomFault("letters;leaf 4;", 3, 8);
        Boundary.roomFault("leaf;", 1, 4);
        Boundary.roomFault("leaf 4 5;", 1, 7);
        Boundary.roomFault("leaf a;", 1, 5);
    }

    private static void bits() {
        Boundary.says(Document.TEXTS, "BITS: a WORD of the letters i and o alone: ones and noughts; 600 bits at most of a ROW");
        for (char c = 'a'; c <= 'z'; c++) {
            if (c != 'i' && c != 'o') {
                Boundary.roomFault("row a io" + c + ";", 2, 6);
                Boundary.roomFault("row a io " + c + "io;", 2, 9);
            }
        }
        BitRopes x = Check.with("row a i;row b o;row c;row d ooi;");
        Boundary.same("bits", Check.row(x, 0) + "/" + Check.row(x, 1) + "/" + Check.row(x, 2) + "/" + Check.row(x, 3), "1/0//001");
        Check.room(x, "row a " + Check.manyBits(600) + ";");
        Boundary.due("size(0) of 600", x.size(0), 600);
        Boundary.roomFault("row a " + Check.manyBits(595) + " ioioii;", 4, 6 + 680);
        Boundary.roomFault("row a " + Check.manyBits(595) + " ioioi i;", 4, 6 + 680 + 6);
        Boundary.due("600 bits again", Check.room(x, "row a " + Check.manyBits(595) + " ioioi;"), 1);
        String half = Check.manyBits(350);
        Boundary.due("700 of two ROWS", Check.room(x, "row a " + half + ";row b " + half + ";"), 2);
        Boundary.due("700 of two ROWS", x.total(2), 700);
    }

    private static void letters() {
        Boundary.says(Document.TEXTS, "'letters' { LETTERS } (a WORD of a to h alone; 200 LETTERS at most; once)");
        for (char c = 'i'; c <= 'z'; c++) {
            Boundary.roomFault("letters a" + c + ";", 2, 8);
            Boundary.roomFault("letters a " + c + "b;", 2, 10);
        }
        BitRopes x = Check.with("letters abcd efgh;");
        Boundary.same("letters", Check.script(x), "abcdefgh");
        Boundary.due("none", Check.room(x, "letters;"), 1);
        Boundary.due("none", x.letters(), 0);
        String many = "letters " + "habcdef ".repeat(28);
        Boundary.due("200", Check.room(x, many + "abcd;"), 1);
        Boundary.due("200", x.letters(), 200);
        Boundary.roomFault(many + "abcde;", 4, 8 + 224);
        Boundary.roomFault(many + "abcd a;", 4, 8 + 224 + 5);
        Boundary.roomFault("letters a;letters b;", 3, 10);
        Boundary.roomFault("letters;row a;letters;", 3, 14);
        Boundary.roomFault("letters 1;", 1, 8);
        Boundary.says(Document.TEXTS, "(BITS, LETTERS may be any such WORD, also one told here.)");
        Boundary.room("row io io io;row bad oi;letters bad bad;", 3);
        Boundary.roomFault("row a row b;", 2, 6);
        Boundary.roomFault("letters a letters;", 2, 10);
    }

    private static void names() {
        Boundary.says(Document.TEXTS, "NAME: a WORD, none of those told here, in a BOOK or a SENTENCE; told once.");
        for (String word : TOLD) {
            Boundary.roomFault("row " + word + ";", 1, 4);
            Boundary.bookFault("put " + word + " 0 1;", 1, 4);
            Boundary.bookFault("join a " + word + ";", 1, 7);
            Boundary.sentenceFault("like " + word, 1, 5);
            String longer = word.length() < 7 ? word + "x" : word.substring(1);
            String shorter = word.length() > 2 ? word.substring(0, word.length() - 1) : "n";
            Boundary.room("row " + longer + ";row " + shorter + ";", 2);
        }
        Boundary.roomFault("row a;row a;", 3, 10);
        Boundary.roomFault("row a;row b;row c;row a;", 3, 22);
        Boundary.roomFault("row 7;", 1, 4);
        Boundary.roomFault("row;", 1, 3);
        Boundary.room("row a;row aa;row aaa;row ab;", 4);
    }

    private static void rows() {
        Boundary.says(Document.TEXTS, "4 ROWS at most, numbered from 0 as told.");
        BitRopes x = Check.with("row z i;row y ii;row b iii;row a iiii;");
        for (int r = 0; r < 4; r++) {
            Boundary.due("size(" + r + ")", x.size(r), r + 1);
        }
        Boundary.due("size(4)", x.size(4), -1);
        Boundary.due("size(-1)", x.size(-1), -1);
        Boundary.roomFault("row a;row b;row c;row d;row e;", 4, 24);
        Boundary.roomFault("row a;row b;row c;letters a;row d;row e i;", 4, 34);
    }

    private static void bookLengths() {
        Boundary.says(Document.TEXTS, "A BOOK is a text of at most 400 bytes: { LINE ; }, 40 at most");
        Boundary.book("", -1);
        Boundary.book(" \n", -1);
        Boundary.book("put a 0 1;" + " ".repeat(390), -1);
        Boundary.bookFault("put a 0 1;" + " ".repeat(391), 1, 400);
        Boundary.bookFault(" ".repeat(401), 1, 400);
        Boundary.bookFault("put a 0 1;" + " ".repeat(930), 1, 400);
        Boundary.book(" ".repeat(390) + "put a 0 1;", -1);
        String forty = "put a 0 1;".repeat(40);
        Boundary.book(forty.substring(0, 390), -1);
        Boundary.book(forty, -1);
        String short40 = "type 0 1;".repeat(40);
        Boundary.book(short40, -1);
        Boundary.bookFault(short40 + "type 0 1;", 4, 360);
        Boundary.bookFault(short40 + " type", 4, 361);
        Boundary.bookFault("put a 0 1", 1, 9);
        Boundary.bookFault("put a 0 1;;", 1, 10);
        Boundary.bookFault(";", 1, 0);
    }

    private static void bookLines() {
        Boundary.says(Document.TEXTS, "'put' ROW I B | 'set' ROW I B | ( 'cut' | 'turn' ) ROW I N");
        for (String deed : new String[] {"put", "set", "cut", "turn"}) {
            int n = deed.length();
            Boundary.book(deed + " a 999 1;", 0);
            Boundary.bookFault(deed + ";", 1, n);
            Boundary.bookFault(deed, 1, n);
            Boundary.bookFault(deed + " 0 0 1;", 1, n + 1);
            Boundary.bookFault(deed + " a;", 1, n + 2);
            Boundary.bookFault(deed + " a b 1;", 1, n + 3);
            Boundary.bookFault(deed + " a 0;", 1, n + 4);
            Boundary.bookFault(deed + " a 0 a;", 1, n + 5);
            Boundary.bookFault(deed + " a 0 1", 1, n + 6);
            Boundary.bookFault(deed + " a 0 1 1;", 1, n + 7);
        }
        Boundary.says(Document.TEXTS, "'join' ROW ROW (not one twice)");
        Boundary.book("join b a;", -1);
        Boundary.bookFault("join a a;", 3, 7);
        Boundary.bookFault("join a;", 1, 6);
        Boundary.bookFault("join a 0;", 1, 7);
        Boundary.bookFault("join a b a;", 1, 9);
        Boundary.says(Document.TEXTS, "'split' ROW I ROW (not one twice)");
        Boundary.book("split a 0 b;", -1);
        Boundary.bookFault("split a 0 a;", 3, 10);
        Boundary.bookFault("split a b;", 1, 8);
        Boundary.bookFault("split a 0;", 1, 9);
        Boundary.bookFault("split a 0 1;", 1, 10);
        Boundary.says(Document.TEXTS, "'type' I C | 'erase' I N");
        for (String deed : new String[] {"type", "erase"}) {
            int n = deed.length();
            Boundary.book(deed + " 0 1;", -1);
            Boundary.bookFault(deed + ";", 1, n);
            Boundary.bookFault(deed + " a 1;", 1, n + 1);
            Boundary.bookFault(deed + " 0;", 1, n + 2);
            Boundary.bookFault(deed + " 0 a;", 1, n + 3);
            Boundary.bookFault(deed + " 0 1 1;", 1, n + 5);
        }
        for (String other : new String[] {"row a;", "leaf 4;", "letters;", "empty;", "a;", "7;", "not;", "or;"}) {
            Boundary.bookFault(other, 1, 0);
            Boundary.bookFault("type 0 0;" + other, 1, 9);
        }
    }

    private static void bookNumbers() {
        Boundary.says(Document.TEXTS, "I: 0 to 999; B: 0, 1; N: 1 to 600");
        String[] ahead = {"put a ", "set a ", "cut a ", "turn a ", "split a ", "type ", "erase "};
        String[] behind = {" 1;", " 0;", " 1;", " 1;", " b;", " 0;", " 1;"};
        for (int k = 0; k < ahead.length; k++) {
            Boundary.book(ahead[k] + "0" + behind[k], -1);
            Boundary.book(ahead[k] + "999" + behind[k], 0);
            Boundary.bookFault(ahead[k] + "1000" + behind[k], 1, ahead[k].length());
        }
        for (String deed : new String[] {"put a 1 ", "set a 1 "}) {
            BitRopes x = Boundary.named();
            Boundary.due(deed + "0", Check.book(x, deed + "0;", 1), -1);
            Boundary.due(deed + "0", x.bit(0, 1), 0);
            Boundary.due(deed + "1", Check.book(x, deed + "1;", 1), -1);
            Boundary.due(deed + "1", x.bit(0, 1), 1);
            Boundary.bookFault(deed + "2;", 2, 8);
            Boundary.bookFault(deed + "999;", 2, 8);
        }
        for (String deed : new String[] {"cut a 0 ", "turn a 0 ", "erase 0 "}) {
            Boundary.bookFault(deed + "0;", 2, deed.length());
            Boundary.bookFault(deed + "000;", 2, deed.length());
            Boundary.book(deed + "1;", -1);
            Boundary.book(deed + "3;", -1);
            Boundary.book(deed + "4;", 0);
            Boundary.book(deed + "600;", 0);
            Boundary.bookFault(deed + "601;", 2, deed.length());
            Boundary.bookFault(deed + "999;", 2, deed.length());
        }
        Boundary.says(Document.TEXTS, "(of 'erase', too: then 71, if there are not so many)");
        BitRopes x = Check.with("letters " + "abcdefg ".repeat(28) + "abcd;");
        Boundary.due("erase 0 201", Check.book(x, "erase 0 201;", 1), 0);
        Boundary.due("told(0)", x.told(0), 71);
        Boundary.due("erase 0 600", Check.book(x, "erase 0 600;", 1), 0);
        Boundary.due("told(0)", x.told(0), 71);
        Boundary.due("erase 0 200", Check.book(x, "erase 0 200;", 1), -1);
        Boundary.due("letters()", x.letters(), 0);
        Boundary.due("erase 0 1", Check.book(x, "erase 0 1;", 1), 0);
        Check.room(x, "row a " + Check.manyBits(600) + ";");
        Boundary.due("turn a 0 600, cut a 0 600", Check.book(x, "turn a 0 600;cut a 0 600;", 1), -1);
        Boundary.due("size(0)", x.size(0), 0);
        Boundary.says(Document.TEXTS, "C: 0 to 7");
        Boundary.book("type 0 0;type 0 7;", -1);
        Boundary.bookFault("type 0 8;", 2, 7);
        Boundary.bookFault("type 0 999;", 2, 7);
    }

    private static void sentenceLengths() {
        Boundary.says(Document.TEXTS, "A SENTENCE is a text of at most 200 bytes: COND: ALL { 'or' ALL }.");
        Boundary.sentenceFault("", 1, 0);
        Boundary.sentenceFault(" \n ", 1, 3);
        Boundary.sentence("even" + " ".repeat(196), 1);
        Boundary.sentence(" ".repeat(195) + "empty", 1);
        Boundary.sentenceFault("even" + " ".repeat(197), 1, 200);
        Boundary.sentenceFault("even" + " ".repeat(936), 1, 200);
        Boundary.sentenceFault(" ".repeat(201), 1, 200);
        Boundary.sentenceFault(" ".repeat(200), 1, 200);
        Boundary.sentenceFault("even or", 1, 7);
        Boundary.sentenceFault("or even", 1, 0);
        Boundary.sentenceFault("even or or even", 1, 8);
        Boundary.says(Document.TEXTS, "ALL: ONE { 'and' ONE }.");
        Boundary.sentenceFault("even and", 1, 8);
        Boundary.sentenceFault("and even", 1, 0);
        Boundary.sentenceFault("even and or even", 1, 9);
        Boundary.sentenceFault("even even", 1, 5);
        Boundary.sentenceFault("even;", 1, 4);
    }

    private static void sentenceForms() {
        Boundary.says(Document.TEXTS, "ONE: 'not' ONE | ( COND ) | 'empty' | 'even' (its ones are)");
        Boundary.sentence("not empty", 2);
        Boundary.sentenceFault("not", 1, 3);
        Boundary.sentenceFault("not and", 1, 4);
        Boundary.sentenceFault("(", 1, 1);
        Boundary.sentenceFault("()", 1, 1);
        Boundary.sentenceFault("(even", 1, 5);
        Boundary.sentenceFault("(even or", 1, 8);
        Boundary.sentenceFault("even)", 1, 4);
        Boundary.sentenceFault("((even)", 1, 7);
        Boundary.sentenceFault("(even))", 1, 6);
        Boundary.sentenceFault(")even(", 1, 0);
        Boundary.sentenceFault("a", 1, 0);
        Boundary.sentenceFault("7", 1, 0);
        Boundary.sentenceFault("row", 1, 0);
        Boundary.sentenceFault("put", 1, 0);
        Boundary.says(Document.TEXTS, "'like' ROW (the same bits) | 'begins' ROW (that one is the beginning of it, or the same)");
        for (String word : new String[] {"like", "begins"}) {
            int n = word.length();
            Boundary.sentence(word + " b", 1);
            Boundary.sentenceFault(word, 1, n);
            Boundary.sentenceFault(word + " 0", 1, n + 1);
            Boundary.sentenceFault(word + " (a)", 1, n + 1);
            Boundary.sentenceFault(word + " c", 3, n + 1);
            Boundary.sentenceFault(word + " a b", 1, n + 3);
        }
        Boundary.says(Document.TEXTS, "( 'size' | 'ones' | 'runs' | 'leaves' | 'number' ) SIGN NUMBER. SIGN: < = >.");
        for (String word : new String[] {"size", "ones", "runs", "leaves", "number"}) {
            int n = word.length();
            Boundary.sentence(word + "<0", 1);
            Boundary.sentence(word + " = 999", 1);
            Boundary.sentence(word + "\n>\n1", 1);
            Boundary.sentenceFault(word, 1, n);
            Boundary.sentenceFault(word + " 3", 1, n + 1);
            Boundary.sentenceFault(word + " <", 1, n + 2);
            Boundary.sentenceFault(word + " <= 3", 1, n + 2);
            Boundary.sentenceFault(word + " ( 3", 1, n + 1);
            Boundary.sentenceFault(word + " = a", 1, n + 3);
            Boundary.sentenceFault(word + " = 3 4", 1, n + 5);
        }
    }

    private static void sentenceCounts() {
        Boundary.says(Document.TEXTS, "20 ONES, 8 within one another.");
        Boundary.sentence("even" + " or even".repeat(19), 20);
        Boundary.sentence("even" + " and even".repeat(19), 20);
        Boundary.sentence("not even" + " or not even".repeat(9), 20);
        Boundary.sentence("(even)" + "and(even)".repeat(9), 20);
        Boundary.sentence("not(not(not(not even)))", 8);
        Boundary.sentence("not not not not not not not even", 8);
        Boundary.sentence("(((((((even)))))))", 8);
        Boundary.sentence("even or (((((((even))))))) or even", 10);
        Boundary.sentence("(((((((even or even and even)))))))and not not not not not not not even", 18);
    }

    private static void firstFaults() {
        Boundary.says(Document.TEXTS, "FAULTS, the first along the text, of one TOKEN the least");
        Boundary.roomFault("leaf 3;row put;", 2, 5);
        Boundary.roomFault("row put;leaf 3;", 1, 4);
        Boundary.roomFault("row a;row a x;", 3, 10);
        Boundary.roomFault("row a x;row a;", 2, 6);
        Boundary.roomFault("row a;row b;row c;row d;row put;", 4, 24);
        // 1 ahead of 2, 3 and 4: no NUMBER at all, no LINE at all, no ONE at all.
        Boundary.roomFault("leaf 0033;", 1, 5);
        Boundary.roomFault("row a iiiiiiix;", 1, 6);
        Boundary.roomFault("row a " + Check.manyBits(595) + " iiiiiiiii;", 1, 6 + 680);
        Boundary.bookFault("type 0 1;".repeat(40) + "row a;", 1, 360);
        Boundary.bookFault("type 0 1;".repeat(40) + ";", 1, 360);
        Boundary.bookFault("type 0 1;".repeat(40) + "a", 1, 360);
        Boundary.sentenceFault("even" + " or even".repeat(19) + " or or", 1, 4 + 19 * 8 + 4);
        Boundary.sentenceFault("((((((((or", 1, 8);
        // 2 ahead of 4: another letter in the WORD that is too much.
        Boundary.roomFault("row a " + Check.manyBits(595) + " ioioiox;", 2, 6 + 680);
        Boundary.roomFault("letters " + "abcdefg ".repeat(28) + "abcdefi;", 2, 8 + 224);
        Boundary.bookFault("put a 0 2;put c 0 1;", 2, 8);
        Boundary.bookFault("put c 0 2;", 3, 4);
        Boundary.bookFault("join c c;", 3, 5);
        Boundary.sentenceFault("like c or or", 3, 5);
        Boundary.sentenceFault("or like c", 1, 0);
    }

    private static void faultsOfTokens() {
        Boundary.says(Document.TEXTS, "1 no TOKEN, or one that can't come (at it");
        Boundary.roomFault("row a;  A", 1, 8);
        Boundary.roomFault("  even;", 1, 2);
        Boundary.roomFault("row a;\n7;", 1, 7);
        Boundary.bookFault("put  a\n0 _ 1;", 1, 9);
        Boundary.bookFault("  even;", 1, 2);
        Boundary.sentenceFault("even or  Even", 1, 9);
        Boundary.sentenceFault("even  put", 1, 6);
        Boundary.says(4, "-1 less the place of a FAULT");
        Boundary.roomFault("A", 1, 0);
        Boundary.says(43, "-1 less the place of a FAULT");
        Boundary.sentenceFault("A", 1, 0);
        Boundary.says(41, "-2 less the place of a FAULT");
        Boundary.bookFault("A", 1, 0);
    }

    private static void faultsAtTheEnd() {
        Boundary.says(Document.TEXTS, "the end: how many bytes there are");
        Boundary.roomFault("row", 1, 3);
        Boundary.roomFault("row a  ", 1, 7);
        Boundary.roomFault("row a" + " ".repeat(894), 1, 899);
        Boundary.roomFault("row a" + " ".repeat(895), 1, 900);
        Boundary.bookFault("put a 0 1 ", 1, 10);
        Boundary.bookFault("put a 0 1" + " ".repeat(391), 1, 400);
        Boundary.sentenceFault("not ", 1, 4);
        Boundary.sentenceFault("not" + " ".repeat(197), 1, 200);
    }

    private static void faultsOfLongTexts() {
        Boundary.says(Document.TEXTS, "the most bytes told, if there are more and no FAULT is ahead: TOKENS that begin ahead of it are read whole");
        Boundary.roomFault("row a" + " ".repeat(896), 1, 900);
        Boundary.roomFault(" ".repeat(898) + "row a;", 1, 900);
        Boundary.roomFault(" ".repeat(899) + "row a;", 1, 900);
        Boundary.roomFault(" ".repeat(900) + "A", 1, 900);
        Boundary.roomFault(" ".repeat(899) + "A", 1, 899);
        Boundary.roomFault(" ".repeat(899) + "rowa;", 1, 899);
        Boundary.roomFault(" ".repeat(894) + "row a ;", 1, 900);
        Boundary.roomFault("leaf" + " ".repeat(895) + "4;", 1, 900);
        Boundary.roomFault("leaf" + " ".repeat(895) + "3;", 2, 899);
        Boundary.roomFault("leaf" + " ".repeat(895) + "333;", 2, 899);
        Boundary.roomFault("leaf" + " ".repeat(895) + "0004;", 1, 899);
        Boundary.roomFault("row a;row" + " ".repeat(890) + "a;", 3, 899);
        Boundary.roomFault("row a;row" + " ".repeat(890) + "aa;", 1, 900);
        Boundary.roomFault("row x 2" + " ".repeat(900), 1, 6);
        Boundary.bookFault(" ".repeat(399) + "put a 0 1;", 1, 400);
        Boundary.bookFault(" ".repeat(399) + "puta 0 1;", 1, 399);
        Boundary.bookFault("put" + " ".repeat(396) + "abcdefg 0 1;", 1, 400);
        Boundary.bookFault("put" + " ".repeat(396) + "abcdef 0 1;", 3, 399);
        Boundary.bookFault("put a 0" + " ".repeat(392) + "2;", 2, 399);
        Boundary.bookFault("put a 0 1" + " ".repeat(391) + ";", 1, 400);
        Boundary.bookFault("put c" + " ".repeat(500), 3, 4);
        Boundary.sentenceFault(" ".repeat(199) + "even", 1, 200);
        Boundary.sentenceFault(" ".repeat(199) + "evens", 1, 199);
        Boundary.sentenceFault("like" + " ".repeat(195) + "abcdefg", 1, 200);
        Boundary.sentenceFault("like" + " ".repeat(195) + "abcdef", 3, 199);
        Boundary.sentenceFault("size=" + " ".repeat(194) + "999 or", 1, 200);
        Boundary.sentenceFault("size=" + " ".repeat(194) + "9990 or", 1, 199);
        Boundary.sentenceFault("even or c" + " ".repeat(500), 1, 8);
    }

    private static void faultsOfNumbers() {
        Boundary.says(Document.TEXTS, "2 a NUMBER that is not as told, BITS, LETTERS with another letter (at it)");
        Boundary.roomFault("leaf  3 ;", 2, 6);
        Boundary.roomFault("row a  oxo;", 2, 7);
        Boundary.roomFault("row a xoo;", 2, 6);
        Boundary.roomFault("row a oox;", 2, 6);
        Boundary.roomFault("letters  ib;", 2, 9);
        Boundary.roomFault("letters bbi;", 2, 8);
        Boundary.bookFault("put a 0  2;", 2, 9);
        Boundary.bookFault("cut a 0\n0;", 2, 8);
    }

    private static void faultsOfNames() {
        Boundary.says(Document.TEXTS, "3 a NAME told twice, not told, or of another sort, the second of two ROWS that are one twice (at it), "
            + "'leaf' behind another LINE, or again, 'letters' again (at the WORD)");
        Boundary.roomFault("row a ;row  a ;", 3, 12);
        Boundary.roomFault("letters a;row b;letters x;", 3, 16);
        Boundary.roomFault("row b;leaf;", 3, 6);
        Boundary.roomFault("leaf 4;leaf;", 3, 7);
        Boundary.bookFault("put  c 0 1;", 3, 5);
        Boundary.bookFault("set c 0 1;", 3, 4);
        Boundary.bookFault("cut c 0 1;", 3, 4);
        Boundary.bookFault("turn c 0 1;", 3, 5);
        Boundary.bookFault("join c a;", 3, 5);
        Boundary.bookFault("join a c;", 3, 7);
        Boundary.bookFault("join b  b;", 3, 8);
        Boundary.bookFault("split c 0 a;", 3, 6);
        Boundary.bookFault("split a 0 c;", 3, 10);
        Boundary.bookFault("split b 0  b;", 3, 11);
        Boundary.sentenceFault("like  c", 3, 6);
        Boundary.sentenceFault("begins c", 3, 7);
        BitRopes none = new BitRopes();
        Boundary.due("book without ROWS", Check.book(none, "put a 0 1;", 0), -6);
        Boundary.due("fault without ROWS", none.fault(), 3);
        Boundary.due("sentence without ROWS", Check.sentence(none, "like a"), -6);
        Boundary.due("fault without ROWS", none.fault(), 3);
        BitRopes x = Boundary.named();
        Check.room(x, "row c;");
        Boundary.due("a NAME of the ROOM ahead", Check.book(x, "put a 0 1;", 0), -6);
        Boundary.due("a NAME of the ROOM ahead", x.fault(), 3);
    }

    private static void faultsOfTooMany() {
        Boundary.says(Document.TEXTS, "4 one more than there may be of a sort, a 41st LINE of a BOOK (at the LINE's first WORD)");
        Boundary.roomFault("row a;row b;row c;row d; row e", 4, 25);
        Boundary.roomFault("row a;row b;row c;row d;row;", 4, 24);
        for (String deed : new String[] {"put", "set", "cut", "turn", "join", "split", "type", "erase"}) {
            Boundary.bookFault("type 0 1;".repeat(40) + deed, 4, 360);
            Boundary.bookFault("type 0 1;".repeat(40) + "\n" + deed + " 7;", 4, 361);
        }
        Boundary.says(Document.TEXTS, "BITS by which there are more than 600, LETTERS more than 200, a 21st ONE, a ninth within (at its first TOKEN).");
        Boundary.roomFault("row a " + Check.manyBits(600) + "  i;", 4, 6 + 685 + 2);
        Boundary.roomFault("row a " + Check.manyBits(595) + " i oioio ioioioi;", 4, 6 + 680 + 2);
        Boundary.roomFault("letters " + "abcdefg ".repeat(28) + "abc  de;", 4, 8 + 224 + 5);
        for (String one : new String[] {"empty", "even", "not", "(", "like", "begins", "size", "ones", "runs", "leaves", "number"}) {
            Boundary.sentenceFault("even" + " or even".repeat(19) + "  or  " + one, 4, 4 + 19 * 8 + 6);
            Boundary.sentenceFault("not not not not not not not not " + one, 4, 32);
            Boundary.sentenceFault("(not(not(not(not " + one, 4, 17);
        }
        Boundary.sentenceFault("((((((((even", 4, 8);
        Boundary.sentenceFault("(((((((even or not even", 4, 19);
        Boundary.sentenceFault("not not not not not not not not not even", 4, 32);
        Boundary.sentenceFault("even" + " or even".repeat(18) + " or not even", 4, 4 + 18 * 8 + 8);
        Boundary.sentenceFault("even" + " or even".repeat(18) + " or (even)", 4, 4 + 18 * 8 + 5);
    }
}
