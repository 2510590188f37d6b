/** Promises 41 to 46: book, told, sentence, said, image, restore. */
public final class BooksAndSentencesTest {
    private static final Check CHECK = new Check();

    public static void main(String[] args) {
        booksJudgedAndLived();
        booksThatAreWrong();
        booksWithFaults();
        booksTooLong();
        sentences();
        sentencesWithFaults();
        imagesAndRestoring();
        CHECK.end();
    }

    private static BitRopes two() {
        return Check.with("leaf 4;row m iio;row w;letters abc;");
    }

    private static void booksJudgedAndLived() {
        BitRopes x = two();
        CHECK.due("42 ahead of any", x.told(0), -1);
        CHECK.due("42 ahead of any", x.told(3), -1);
        String text = "put m 0 0; set m 1 0; turn m 0 4;split m 1 w;join m w;cut m 0 2;type 3 7;erase 0 2;";
        CHECK.due("41 judged", Check.book(x, text, 0), -1);
        CHECK.due("41 the tape is empty", x.total(3), 0);
        CHECK.same("41 all stays", Check.row(x, 0) + "/" + Check.row(x, 1) + "/" + Check.script(x), "110//abc");
        CHECK.due("42 told(0)", x.told(0), 0);
        CHECK.due("42 told(1)", x.told(1), 8);
        CHECK.due("42 told(2)", x.told(2), 2);
        CHECK.due("42 told(3)", x.told(3), 2);
        CHECK.due("42 told(4)", x.told(4), -1);
        CHECK.due("42 told(-1)", x.told(-1), -1);
        CHECK.due("41 lived", Check.book(x, text, 1), -1);
        CHECK.same("41 lived", Check.row(x, 0) + "/" + Check.row(x, 1) + "/" + Check.script(x), "01//ch");
        CHECK.due("41 no LINES", Check.book(x, "", 1), -1);
        CHECK.due("42 no LINES", x.told(1), 0);
        CHECK.due("42 no LINES", x.told(2), 2);
        Check.feed(x, "put m 0");
        CHECK.due("41 another lives", x.book(2), -1000);
        CHECK.due("41 the tape stays", x.total(3), 7);
        CHECK.due("41 another lives", x.book(-1), -1000);
        CHECK.due("5 no FAULT", x.fault(), 0);
        CHECK.due("41 a FAULT", x.book(1), -9);
        CHECK.due("5 a FAULT", x.fault(), 1);
        x.book(3);
        CHECK.due("5 -1000 leaves it", x.fault(), 1);
        CHECK.due("42 of the latest without a FAULT", x.told(2), 2);
    }

    private static void wrong(String text, int line, int why, int bits, int letters) {
        BitRopes x = two();
        CHECK.due("41 judged " + text, Check.book(x, text, 0), line);
        CHECK.due("42 why " + text, x.told(0), why);
        CHECK.due("42 lines " + text, x.told(1), line);
        CHECK.due("42 bits " + text, x.told(2), bits);
        CHECK.due("42 letters " + text, x.told(3), letters);
        CHECK.due("41 all stays " + text, x.total(2) + x.letters(), 6);
        CHECK.due("41 lived " + text, Check.book(x, text, 1), line);
        CHECK.due("42 why " + text, x.told(0), why);
        CHECK.due("42 lines " + text, x.told(1), line);
        CHECK.due("41 bits " + text, x.total(2), bits);
        CHECK.due("41 letters " + text, x.letters(), letters);
        CHECK.due("39 undone " + text, x.undo(), line > 0 ? 0 : -1);
        CHECK.due("39 undone " + text, x.total(2) + x.letters(), 6);
    }

    private static void booksThatAreWrong() {
        wrong("put m 4 1;", 0, 1, 3, 3);
        wrong("put m 3 1;put w 1 0;put w 0 0;", 1, 1, 4, 3);
        wrong("set m 3 1;", 0, 11, 3, 3);
        wrong("set m 0 1;", 0, 12, 3, 3);
        wrong("cut m 1 2;cut m 1 1;", 1, 21, 1, 3);
        wrong("turn m 1 600;", 0, 31, 3, 3);
        wrong("join m w;", 0, 41, 3, 3);
        wrong("split m 3 w;", 0, 51, 3, 3);
        wrong("split m 1 w;split m 1 w;", 1, 51, 3, 3);
        wrong("type 0 0;type 5 0;", 1, 61, 3, 4);
        wrong("erase 0 1;erase 2 1;", 1, 71, 3, 2);
        wrong("erase 0 600;", 0, 71, 3, 3);
        BitRopes x = Check.with("row a " + Check.manyBits(600) + ";row b io;row c;");
        Check.book(x, "put a 0 1;", 0);
        CHECK.due("42 600 bits", x.told(0), 2);
        Check.book(x, "join a b;", 0);
        CHECK.due("42 more than 600", x.told(0), 42);
        Check.book(x, "split a 1 b;", 0);
        CHECK.due("42 more than 600", x.told(0), 52);
        Check.book(x, "split a 2 b;", 0);
        CHECK.due("42 no more than 600", x.told(0), 0);
        Check.room(x, "letters " + "abcdefg ".repeat(28) + "abcd;");
        Check.book(x, "type 0 1;", 0);
        CHECK.due("42 200 letters", x.told(0), 62);
    }

    private static void bookFault(String text, int place, int kind) {
        BitRopes x = two();
        for (int lives = 0; lives <= 1; lives++) {
            CHECK.due("41 " + text, Check.book(x, text, lives), -2 - place);
            CHECK.due("5 " + text, x.fault(), kind);
            CHECK.due("41 the tape is empty", x.total(3), 0);
            CHECK.due("41 nothing is lived", x.total(2) + x.letters(), 6);
            CHECK.due("42 none without a FAULT", x.told(0), -1);
        }
    }

    private static void booksWithFaults() {
        bookFault("put m 0 1", 9, 1);
        bookFault("put m 0 1;;", 10, 1);
        bookFault("row m;", 0, 1);
        bookFault("put m 0 1;empty;", 10, 1);
        bookFault("m;", 0, 1);
        bookFault("put 0;", 4, 1);
        bookFault("put put 0 1;", 4, 1);
        bookFault("put m m 1;", 6, 1);
        bookFault("put m 0 m;", 8, 1);
        bookFault("put m 1000 1;", 6, 1);
        bookFault("type m 0;", 5, 1);
        bookFault("join m 3;", 7, 1);
        bookFault("join m size;", 7, 1);
        bookFault("put m 0 2;", 8, 2);
        bookFault("set m 999 2;", 10, 2);
        bookFault("cut m 0 0;", 8, 2);
        bookFault("cut m 0 601;", 8, 2);
        bookFault("turn m 0 601;", 9, 2);
        bookFault("turn m 0 0;", 9, 2);
        bookFault("type 0 8;", 7, 2);
        bookFault("erase 0 0;", 8, 2);
        bookFault("erase 0 601;", 8, 2);
        bookFault("put x 0 1;", 4, 3);
        bookFault("join m x;", 7, 3);
        bookFault("join m m;", 7, 3);
        bookFault("join x x;", 5, 3);
        bookFault("split m 0 m;", 10, 3);
        bookFault("split m 0 x;", 10, 3);
        bookFault("split m w;", 8, 1);
    }

    private static void booksTooLong() {
        BitRopes x = two();
        String forty = "type 0 0;".repeat(40);
        CHECK.due("41 40 LINES", Check.book(x, forty, 1), -1);
        CHECK.due("42 40 LINES", x.told(1), 40);
        CHECK.due("41 a 41st", Check.book(x, forty + " put q 0 1;", 1), -2 - 361);
        CHECK.due("5 a 41st", x.fault(), 4);
        CHECK.due("41 a 41st that can't come", Check.book(x, forty + "row", 1), -2 - 360);
        CHECK.due("5 a 41st that can't come", x.fault(), 1);
        CHECK.due("41 400 bytes", Check.book(x, forty + " ".repeat(40), 0), -1);
        CHECK.due("41 401 bytes", Check.book(x, forty + " ".repeat(41), 0), -402);
        CHECK.due("5 401 bytes", x.fault(), 1);
        CHECK.due("41 read whole", Check.book(x, " ".repeat(399) + "putt", 0), -2 - 399);
        CHECK.due("41 read whole", Check.book(x, " ".repeat(399) + "put", 0), -2 - 400);
    }

    private static void holds(String text, int ones, String rows) {
        BitRopes x = Check.with("leaf 4;row a;row b ioioi;row c ioioioi oi;row d ioioi;");
        CHECK.due("43 " + text, Check.sentence(x, text), ones);
        CHECK.due("5 " + text, x.fault(), 0);
        CHECK.due("43 the tape is empty", x.total(3), 0);
        CHECK.due("44 how many: " + text, x.said(-1), rows.length());
        for (int k = 0; k < rows.length(); k++) {
            CHECK.due("44 said(" + k + "): " + text, x.said(k), rows.charAt(k) - '0');
        }
        CHECK.due("44 no more: " + text, x.said(rows.length()), -1);
        CHECK.due("44 said(-2)", x.said(-2), -1);
    }

    private static void sentences() {
        holds("empty", 1, "0");
        holds("not empty", 2, "123");
        holds("even", 1, "0");
        holds("like b", 1, "13");
        holds("like a", 1, "0");
        holds("begins b", 1, "123");
        holds("begins a", 1, "0123");
        holds("begins c", 1, "2");
        holds("size>5", 1, "2");
        holds("size = 5", 1, "13");
        holds("size < 5", 1, "0");
        holds("ones = 3", 1, "13");
        holds("ones > 3", 1, "2");
        holds("runs = 9", 1, "2");
        holds("leaves = 2", 1, "2");
        holds("leaves < 1", 1, "0");
        holds("number < 2", 1, "01");
        holds("number = 999", 1, "");
        holds("number > 000", 1, "123");
        holds("(((empty)))", 4, "0");
        holds("number = 0 or number = 1 and number = 2", 3, "0");
        holds("number = 1 and number = 2 or number = 0", 3, "0");
        holds("(number = 0 or number = 2) and not number = 0", 5, "2");
        holds("not number = 0 and number < 2", 3, "1");
        holds("not (number = 0 and number < 2)", 4, "123");
        holds("number=0 or number=1 or number=2 and empty or number=3", 5, "013");
        holds("empty or even or empty and not even or like c and size > 8 or empty", 8, "02");
        holds("not not not not not not not empty", 8, "123");
        holds("((((((( empty )))))))or like b", 9, "013");
        holds("empty" + " or empty".repeat(19), 20, "0");
        BitRopes x = Check.with("row a i;");
        CHECK.due("44 no SENTENCE", x.said(-1), -1);
        Check.sentence(x, "size = 1");
        x.put(0, 0, 1);
        CHECK.due("44 of the ROWS as they are", x.said(-1), 0);
        Check.sentence(x, "size 1");
        x.undo();
        CHECK.due("43 it stays with a FAULT", x.said(-1), 1);
        BitRopes none = new BitRopes();
        Check.sentence(none, "empty");
        CHECK.due("44 of no ROWS", none.said(-1), 0);
    }

    private static void sentenceFault(String text, int place, int kind) {
        BitRopes x = two();
        CHECK.due("43 " + text, Check.sentence(x, text), -1 - place);
        CHECK.due("5 " + text, x.fault(), kind);
        CHECK.due("43 the tape is empty", x.total(3), 0);
        CHECK.due("44 none " + text, x.said(-1), -1);
    }

    private static void sentencesWithFaults() {
        sentenceFault("", 0, 1);
        sentenceFault("  ", 2, 1);
        sentenceFault("not", 3, 1);
        sentenceFault("empty and", 9, 1);
        sentenceFault("empty or ;", 9, 1);
        sentenceFault("empty;", 5, 1);
        sentenceFault("empty)", 5, 1);
        sentenceFault("empty empty", 6, 1);
        sentenceFault("(empty", 6, 1);
        sentenceFault("()", 1, 1);
        sentenceFault("m", 0, 1);
        sentenceFault("size 4", 5, 1);
        sentenceFault("size = m", 7, 1);
        sentenceFault("size = 1000", 7, 1);
        sentenceFault("size ( 4", 5, 1);
        sentenceFault("like 4", 5, 1);
        sentenceFault("like like", 5, 1);
        sentenceFault("like row", 5, 1);
        sentenceFault("like x", 5, 3);
        sentenceFault("begins x", 7, 3);
        sentenceFault("empty" + " or empty".repeat(20), 5 + 19 * 9 + 4, 4);
        sentenceFault("empty" + " or empty".repeat(19) + " or m", 5 + 19 * 9 + 4, 1);
        sentenceFault("not not not not not not not not empty", 32, 4);
        sentenceFault("(((((((( empty ))))))))", 9, 4);
        sentenceFault("not ((((((( m", 12, 1);
        sentenceFault("empty" + " ".repeat(196), 200, 1);
        sentenceFault("size = 4x" + " ".repeat(300), 7, 1);
        BitRopes x = two();
        CHECK.due("43 200 bytes", Check.sentence(x, "empty" + " ".repeat(195)), 1);
    }

    private static void imagesAndRestoring() {
        BitRopes x = two();
        CHECK.due("45 image(2)", x.image(2), false);
        CHECK.due("45 image(-1)", x.image(-1), false);
        CHECK.due("46 restore(0)", x.restore(0), false);
        CHECK.due("46 restore(-1)", x.restore(-1), false);
        CHECK.due("46 restore(2)", x.restore(2), false);
        Check.sentence(x, "ones = 2");
        x.put(0, 0, 0);
        CHECK.due("45 image(0)", x.image(0), true);
        CHECK.due("45 can still be undone", x.undo(), 0);
        CHECK.due("46 restore(1)", x.restore(1), false);
        Check.room(x, "row z;");
        CHECK.due("45 image(1)", x.image(1), true);
        x.put(0, 0, 1);
        Check.feed(x, "put q 0 1;");
        x.book(1);
        Check.feed(x, "row");
        CHECK.due("46 restore(0)", x.restore(0), true);
        CHECK.due("46 nothing can be undone", x.undo(), -1);
        CHECK.due("46 the tape stays", x.total(3), 3);
        CHECK.due("46 fault() stays", x.fault(), 3);
        CHECK.due("46 LOW", x.total(1), 4);
        CHECK.due("46 ROWS", x.total(0), 2);
        CHECK.same("46 bits", Check.row(x, 0), "0110");
        CHECK.same("46 letters", Check.script(x), "abc");
        CHECK.due("46 the SENTENCE", x.said(0), 0);
        CHECK.due("46 names", Check.book(x, "put m 0 1;put w 0 1;", 1), -1);
        CHECK.due("46 restore(1)", x.restore(1), true);
        CHECK.due("46 no SENTENCE", x.said(-1), -1);
        CHECK.due("46 bits", x.total(2), 0);
        CHECK.due("46 LOW", x.total(1), 8);
        CHECK.due("46 letters", x.letters(), 0);
        CHECK.due("46 names", Check.book(x, "put m 0 1;", 1), -6);
        CHECK.due("46 restore(0) again", x.restore(0), true);
        CHECK.same("46 the image is as it was kept", Check.row(x, 0) + Check.row(x, 1), "0110");
        Check.sentence(x, "size < 3 or like m");
        x.image(1);
        Check.sentence(x, "size > 4 and like w");
        x.restore(1);
        CHECK.due("46 the SENTENCE with all that it tells", x.said(-1), 2);
        CHECK.due("46 the SENTENCE with all that it tells", x.said(1), 1);
        x.put(1, 0, 0);
        x.put(1, 0, 0);
        x.put(1, 0, 0);
        CHECK.due("46 the SENTENCE with all that it tells", x.said(-1), 1);
    }
}
