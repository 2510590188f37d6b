/** Promises 1 to 5 and 47: a new object, feed, end, room, fault, total. */
public final class TapeAndRoomTest {
    private static final Check CHECK = new Check();

    public static void main(String[] args) {
        newObject();
        feedAndEnd();
        roomsAsTold();
        roomsWithFaults();
        roomsTooLong();
        roomsTooFull();
        whatARoomEnds();
        CHECK.end();
    }

    private static void newObject() {
        BitRopes x = new BitRopes();
        CHECK.due("1 total(0)", x.total(0), 0);
        CHECK.due("1 total(1)", x.total(1), 8);
        CHECK.due("1 total(2)", x.total(2), 0);
        CHECK.due("1 total(3)", x.total(3), 0);
        CHECK.due("1 letters()", x.letters(), 0);
        CHECK.due("1 fault()", x.fault(), 0);
        CHECK.due("1 undo()", x.undo(), -1);
        CHECK.due("1 said(-1)", x.said(-1), -1);
        CHECK.due("1 restore(1)", x.restore(1), false);
        CHECK.due("47 total(-1)", x.total(-1), -1);
        CHECK.due("47 total(4)", x.total(4), -1);
        CHECK.due("NONE", BitRopes.NONE, -1);
    }

    private static void feedAndEnd() {
        BitRopes x = new BitRopes();
        CHECK.due("2 feed", x.feed(0x01000101, 0x00000001, 0, 0, 0x80000001), 20);
        CHECK.due("3 end(-1)", x.end(-1), false);
        CHECK.due("3 end(21)", x.end(21), false);
        CHECK.due("47 total(3)", x.total(3), 20);
        CHECK.due("3 end(20)", x.end(20), true);
        CHECK.due("3 end(4)", x.end(4), true);
        CHECK.due("47 total(3)", x.total(3), 4);
        CHECK.due("3 end(5)", x.end(5), false);
        x = Check.with("row a;");
        x.feed(0x01000101, 0x00000001, 0, 0, 0);
        x.end(8);
        x.paste(0, 0);
        CHECK.same("2 the highest byte first", Check.row(x, 0), "10110001");
        for (int k = 1; k <= 47; k++) {
            CHECK.due("2 feed " + k, x.feed(0, 0, 0, 0, 0), 20 * k);
        }
        CHECK.due("2 feed 48", x.feed(1, 1, 1, 1, 1), -1);
        CHECK.due("47 total(3)", x.total(3), 940);
        x.end(921);
        CHECK.due("2 feed behind 921", x.feed(1, 1, 1, 1, 1), -1);
        CHECK.due("47 total(3)", x.total(3), 921);
        x.end(920);
        CHECK.due("2 feed behind 920", x.feed(1, 1, 1, 1, 1), 940);
        CHECK.due("3 end(0)", x.end(0), true);
        CHECK.due("47 total(3)", x.total(3), 0);
    }

    private static void roomsAsTold() {
        BitRopes x = Check.with("leaf 4;row m ioi;row w;letters hag;");
        CHECK.due("4 total(0)", x.total(0), 2);
        CHECK.due("4 total(1)", x.total(1), 4);
        CHECK.due("4 total(2)", x.total(2), 3);
        CHECK.due("4 total(3)", x.total(3), 0);
        CHECK.same("4 row", Check.row(x, 0), "101");
        CHECK.same("4 row", Check.row(x, 1), "");
        CHECK.same("4 letters", Check.script(x), "hag");
        CHECK.due("4 lines", Check.room(x, "letters abc de;row abc io oi ;row io io;\nrow i i;row o o;\n"), 5);
        CHECK.due("4 total(0)", x.total(0), 4);
        CHECK.due("4 LOW without", x.total(1), 8);
        CHECK.same("4 row", Check.row(x, 0), "1001");
        CHECK.same("4 letters", Check.script(x), "abcde");
        CHECK.due("4 leaf 004", Check.room(x, "leaf 004;"), 1);
        CHECK.due("4 total(1)", x.total(1), 4);
        CHECK.due("4 leaf 32", Check.room(x, " leaf\n32 ; "), 1);
        CHECK.due("4 total(1)", x.total(1), 32);
        CHECK.due("4 no text", Check.room(x, ""), 0);
        CHECK.due("4 total(1)", x.total(1), 8);
        CHECK.due("4 blanks", Check.room(x, " \n "), 0);
        CHECK.due("4 letters of none", Check.room(x, "letters;"), 1);
    }

    private static void fault(String text, int place, int kind) {
        BitRopes x = Check.with("leaf 5;row q ii;letters h;");
        CHECK.due("4 room " + text, Check.room(x, text), -1 - place);
        CHECK.due("5 fault " + text, x.fault(), kind);
        CHECK.due("4 tape after " + text, x.total(3), 0);
        CHECK.due("4 the room stays", x.total(1), 5);
        CHECK.same("4 the room stays", Check.row(x, 0) + Check.script(x), "11h");
        Check.room(x, "row z;");
        CHECK.due("5 fault is gone", x.fault(), 0);
    }

    private static void roomsWithFaults() {
        fault(";", 0, 1);
        fault("a", 0, 1);
        fault("row", 3, 1);
        fault("row  ", 5, 1);
        fault("row a", 5, 1);
        fault("row a i", 7, 1);
        fault("row a i\n", 8, 1);
        fault("row 1;", 4, 1);
        fault("row a 10;", 6, 1);
        fault("row a <;", 6, 1);
        fault("row a1;", 4, 1);
        fault("rowa;", 0, 1);
        fault("ROW a;", 0, 1);
        fault("row A;", 4, 1);
        fault("row a;.", 6, 1);
        fault("row\ta;", 3, 1);
        fault("row a;put a 0 1;", 6, 1);
        fault("row abcdefgh;", 4, 1);
        fault("row a ioioioio;", 6, 1);
        fault("row a i;;", 8, 1);
        fault("leaf;", 4, 1);
        fault("leaf x;", 5, 1);
        fault("leaf 0004;", 5, 1);
        fault("leaf 4 4;", 7, 1);
        fault("leaf 3;", 5, 2);
        fault("leaf 33;", 5, 2);
        fault("leaf 999;", 5, 2);
        fault("row a x;", 6, 2);
        fault("row a io iox;", 9, 2);
        fault("row a row b;", 6, 2);
        fault("letters i;", 8, 2);
        fault("letters a abch;letters;", 15, 3);
        fault("letters a letters;", 10, 2);
        fault("row a;row a;", 10, 3);
        fault("row a;leaf 4;", 6, 3);
        fault("leaf 4;leaf 5;", 7, 3);
        fault("letters;leaf x;", 8, 3);
        fault("row a;row b;row c;row d;row e;", 24, 4);
        fault("row a;row b;row c;row d;row a;", 24, 4);
        String[] told = {"leaf", "row", "letters", "put", "set", "cut", "turn", "join", "split", "type", "erase",
            "or", "and", "not", "empty", "even", "like", "begins", "size", "ones", "runs", "leaves", "number"};
        for (String word : told) {
            fault("row " + word + ";", 4, 1);
        }
        int[] high = {'r', 'o', 'w', ' ', 'a', 0xE9, ';'};
        BitRopes x = new BitRopes();
        Check.feed(x, high);
        CHECK.due("4 a byte above 127", x.room(), -6);
        CHECK.due("5 a byte above 127", x.fault(), 1);
    }

    private static void roomsTooLong() {
        BitRopes x = new BitRopes();
        CHECK.due("4 900 bytes", Check.room(x, "row a;" + " ".repeat(894)), 1);
        CHECK.due("4 901 bytes", Check.room(x, "row b;" + " ".repeat(895)), -901);
        CHECK.due("5 901 bytes", x.fault(), 1);
        CHECK.due("4 a fault ahead", Check.room(x, "row put;" + " ".repeat(930)), -5);
        CHECK.due("4 a token begun ahead", Check.room(x, " ".repeat(896) + "row b;"), -901);
        CHECK.due("4 one that begins ahead is read whole", Check.room(x, "row b " + " ".repeat(890) + "iiiiiiii;"), -897);
        CHECK.due("5 it is none", x.fault(), 1);
        CHECK.due("4 one that begins ahead is read whole", Check.room(x, "row b " + " ".repeat(890) + "iiiiiix;"), -897);
        CHECK.due("5 it is not as told", x.fault(), 2);
        CHECK.due("4 one that begins ahead is read whole", Check.room(x, "row b " + " ".repeat(890) + "iiiiiii;"), -901);
        CHECK.due("4 one behind is not read", Check.room(x, "row b " + " ".repeat(894) + "x;"), -901);
        CHECK.due("5 one behind is not read", x.fault(), 1);
        CHECK.due("4 the last byte", Check.room(x, "row b " + " ".repeat(893) + ";"), 1);
        CHECK.due("4 one behind the last", Check.room(x, "row b " + " ".repeat(894) + ";"), -901);
    }

    private static void roomsTooFull() {
        BitRopes x = new BitRopes();
        CHECK.due("4 600 bits", Check.room(x, "row a " + Check.manyBits(600) + ";"), 1);
        CHECK.due("6 600 bits", x.size(0), 600);
        String full = "row b " + Check.manyBits(602);
        CHECK.due("4 602 bits", Check.room(x, full + ";"), -1 - (full.length() - 7));
        CHECK.due("5 602 bits", x.fault(), 4);
        CHECK.due("4 602 bits and another letter", Check.room(x, full.substring(0, full.length() - 1) + "x;"), -1 - (full.length() - 7));
        CHECK.due("5 the least", x.fault(), 2);
        String words = "letters " + "abcdefg ".repeat(28);
        CHECK.due("4 200 letters", Check.room(x, words + "abcd;"), 1);
        CHECK.due("31 200 letters", x.letters(), 200);
        CHECK.due("4 201 letters", Check.room(x, words + "abcd a;"), -1 - (words.length() + 5));
        CHECK.due("5 201 letters", x.fault(), 4);
        CHECK.due("4 201 letters, one other", Check.room(x, words + "abcdi;"), -1 - words.length());
        CHECK.due("5 the least", x.fault(), 2);
    }

    private static void whatARoomEnds() {
        BitRopes x = Check.with("row a io;");
        x.put(0, 0, 1);
        Check.sentence(x, "empty");
        Check.bits(x, "1");
        x.seek(0);
        Check.book(x, "put a 9 1;", 0);
        x.image(0);
        CHECK.due("4 a FAULT", Check.room(x, "rows"), -1);
        CHECK.due("4 the SENTENCE stays with a FAULT", x.said(-1), 0);
        CHECK.due("4 what can be undone stays with a FAULT", x.undo(), 0);
        x.put(0, 0, 1);
        Check.room(x, "row b ii;");
        CHECK.due("4 nothing can be undone", x.undo(), -1);
        CHECK.due("4 no SENTENCE", x.said(-1), -1);
        CHECK.due("23 seekAt() stays", x.seekAt(1), 1);
        CHECK.due("42 told() stays", x.told(0), 1);
        CHECK.due("45 the image stays", x.restore(0), true);
        CHECK.same("45 the image stays", Check.row(x, 0), "110");
    }
}
