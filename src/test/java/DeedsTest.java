/** Promises 24 to 30, 39 and 40: deeds on ROWS, undone and drawn. */
public final class DeedsTest {
    private static final Check CHECK = new Check();

    public static void main(String[] args) {
        putting();
        setting();
        cutting();
        turning();
        pasting();
        joining();
        splitting();
        undoing();
        drawing();
        CHECK.end();
    }

    private static BitRopes full() {
        return Check.with("leaf 4;row a " + Check.manyBits(600) + ";row b iio;");
    }

    private static void putting() {
        BitRopes x = Check.with("leaf 4;row a ooooooo o;row b;");
        CHECK.same("14 one leaf", Check.leaves(x, 0), "8");
        CHECK.due("24 put(0, 9, 1)", x.put(0, 9, 1), 1);
        CHECK.due("24 put(0, -1, 1)", x.put(0, -1, 1), 1);
        CHECK.due("24 put(0, 0, 2)", x.put(0, 0, 2), -1);
        CHECK.due("24 put(0, 0, -1)", x.put(0, 0, -1), -1);
        CHECK.due("24 put(2, 0, 1)", x.put(2, 0, 1), -1);
        CHECK.due("24 put(-1, 0, 1)", x.put(-1, 0, 1), -1);
        CHECK.due("24 put(0, 3, 1)", x.put(0, 3, 1), 0);
        CHECK.same("24 it is there", Check.row(x, 0), "000100000");
        CHECK.same("24 it is two", Check.leaves(x, 0), "5 4");
        x.put(0, 5, 1);
        CHECK.same("24 the leaf that has the place ahead", Check.leaves(x, 0), "6 4");
        x.put(0, 7, 1);
        CHECK.same("24 the leaf that has the place ahead", Check.leaves(x, 0), "6 5");
        x.put(0, 0, 1);
        CHECK.same("24 place 0: the first one", Check.leaves(x, 0), "7 5");
        x.put(0, 0, 1);
        x.put(0, 0, 1);
        CHECK.same("24 the first half has one more", Check.leaves(x, 0), "5 4 5");
        CHECK.same("24 the bits", Check.row(x, 0), "11100010101000");
        CHECK.due("24 a ROW without bits", x.put(1, 0, 1), 0);
        CHECK.same("24 a new leaf", Check.leaves(x, 1), "1");
        BitRopes full = full();
        CHECK.due("24 600 bits", full.put(0, 0, 1), 2);
        CHECK.due("24 the least", full.put(0, 601, 1), 1);
        CHECK.due("24 nothing was done", full.undo(), -1);
    }

    private static void setting() {
        BitRopes x = Check.with("row a io;");
        CHECK.due("25 set(0, 0, 1)", x.set(0, 0, 1), 2);
        CHECK.due("25 set(0, 2, 1)", x.set(0, 2, 1), 1);
        CHECK.due("25 set(0, -1, 1)", x.set(0, -1, 1), 1);
        CHECK.due("25 set(0, 0, 2)", x.set(0, 0, 2), -1);
        CHECK.due("25 set(1, 0, 0)", x.set(1, 0, 0), -1);
        CHECK.due("25 nothing was done", x.undo(), -1);
        CHECK.due("25 set(0, 0, 0)", x.set(0, 0, 0), 0);
        CHECK.due("25 set(0, 1, 1)", x.set(0, 1, 1), 0);
        CHECK.same("25 the bits", Check.row(x, 0), "01");
    }

    private static void cutting() {
        BitRopes x = Check.with("leaf 4;row a iiiiooo oiiiioo oo;");
        CHECK.same("26 leaves", Check.leaves(x, 0), "5 5 6");
        CHECK.due("26 cut(0, 0, 0)", x.cut(0, 0, 0), -1);
        CHECK.due("26 cut(0, 0, 601)", x.cut(0, 0, 601), -1);
        CHECK.due("26 cut(1, 0, 1)", x.cut(1, 0, 1), -1);
        CHECK.due("26 cut(0, 0, 17)", x.cut(0, 0, 17), 1);
        CHECK.due("26 cut(0, -1, 1)", x.cut(0, -1, 1), 1);
        CHECK.due("26 cut(0, max, 600)", x.cut(0, Integer.MAX_VALUE, 600), 1);
        CHECK.due("26 nothing was done", x.undo(), -1);
        CHECK.due("26 cut(0, 5, 1)", x.cut(0, 5, 1), 0);
        CHECK.same("26 as few as LOW", Check.leaves(x, 0), "5 4 6");
        x.cut(0, 5, 1);
        CHECK.same("26 with the next, and two again", Check.leaves(x, 0), "5 5 4");
        x.cut(0, 13, 1);
        CHECK.same("26 the last: with the one ahead", Check.leaves(x, 0), "5 8");
        CHECK.same("26 the bits", Check.row(x, 0), "1111001111000");
        x.cut(0, 0, 2);
        CHECK.same("26 more than twice LOW", Check.leaves(x, 0), "6 5");
        x.cut(0, 10, 1);
        x.cut(0, 9, 1);
        CHECK.same("26 the last: two again", Check.leaves(x, 0), "5 4");
        x.cut(0, 1, 8);
        CHECK.same("26 one by one", Check.leaves(x, 0), "1");
        CHECK.same("26 the bits", Check.row(x, 0), "1");
        x.cut(0, 0, 1);
        CHECK.due("26 a leaf without bits is none", x.leaves(0), 0);
        CHECK.due("26 cut(0, 0, 1) of none", x.cut(0, 0, 1), 1);
        BitRopes full = full();
        CHECK.due("26 all", full.cut(0, 0, 600), 0);
        CHECK.due("26 all", full.size(0) + full.leaves(0), 0);
    }

    private static void turning() {
        BitRopes x = Check.with("leaf 4;row a iiiiooo oiiiioo oo;");
        CHECK.due("27 turn(0, 0, 0)", x.turn(0, 0, 0), -1);
        CHECK.due("27 turn(0, 0, 601)", x.turn(0, 0, 601), -1);
        CHECK.due("27 turn(1, 0, 1)", x.turn(1, 0, 1), -1);
        CHECK.due("27 turn(0, 16, 1)", x.turn(0, 16, 1), 1);
        CHECK.due("27 turn(0, -1, 3)", x.turn(0, -1, 3), 1);
        CHECK.due("27 turn(0, max, 1)", x.turn(0, Integer.MAX_VALUE, 1), 1);
        CHECK.due("27 nothing was done", x.undo(), -1);
        CHECK.due("27 turn(0, 3, 10)", x.turn(0, 3, 10), 0);
        CHECK.same("27 the bits", Check.row(x, 0), "1110111100001000");
        CHECK.due("27 the rest", x.turn(0, 15, 1), 0);
        CHECK.same("27 the bits", Check.row(x, 0), "1110111100001001");
        CHECK.same("27 leaves", Check.leaves(x, 0), "5 5 6");
        CHECK.due("15 ones of a leaf", x.leaf(0, 1, 1), 3);
        BitRopes full = full();
        CHECK.due("27 all", full.turn(0, 0, 600), 0);
        CHECK.due("27 all", full.bit(0, 0) + full.bit(0, 598), 2);
    }

    private static void pasting() {
        BitRopes x = Check.with("leaf 4;row a iiii;row b " + Check.manyBits(599) + ";");
        CHECK.due("28 an empty tape", x.paste(0, 0), -1);
        Check.bits(x, "0".repeat(65));
        CHECK.due("28 65 bits", x.paste(0, 0), -1);
        CHECK.due("28 the tape is empty", x.total(3), 0);
        Check.bits(x, "02");
        CHECK.due("28 another byte", x.paste(0, 0), -1);
        Check.bits(x, "00");
        CHECK.due("28 no such ROW", x.paste(2, 0), -1);
        CHECK.due("28 the tape is empty", x.total(3), 0);
        Check.bits(x, "00");
        CHECK.due("28 no such place", x.paste(0, 5), 1);
        CHECK.due("28 the tape is empty", x.total(3), 0);
        Check.bits(x, "00");
        CHECK.due("28 no such place", x.paste(0, -1), 1);
        Check.bits(x, "00");
        CHECK.due("28 more than 600", x.paste(1, 0), 2);
        Check.bits(x, "00");
        CHECK.due("28 the least", x.paste(1, 600), 1);
        CHECK.due("28 nothing was done", x.undo(), -1);
        Check.bits(x, "001010");
        CHECK.due("28 paste(0, 2)", x.paste(0, 2), 0);
        CHECK.same("28 the bits", Check.row(x, 0), "1100101011");
        CHECK.same("28 leaves", Check.leaves(x, 0), "5 5");
        Check.bits(x, "0".repeat(64));
        CHECK.due("28 64 bits", x.paste(0, 0), 0);
        CHECK.due("28 the tape is empty", x.total(3), 0);
        CHECK.due("28 one is undone as a whole", x.undo(), 1);
        CHECK.same("28 the bits", Check.row(x, 0), "1100101011");
        Check.bits(x, "1");
        CHECK.due("28 as many as may be", x.paste(1, 599), 0);
        CHECK.due("28 as many as may be", x.size(1), 600);
    }

    private static void joining() {
        BitRopes x = Check.with("leaf 4;row a iiii;row b oooooo;row c;row d " + Check.manyBits(595) + ";");
        CHECK.due("29 join(0, 0)", x.join(0, 0), -1);
        CHECK.due("29 join(0, 4)", x.join(0, 4), -1);
        CHECK.due("29 join(-1, 0)", x.join(-1, 0), -1);
        CHECK.due("29 that has no bits", x.join(0, 2), 1);
        CHECK.due("29 more than 600", x.join(3, 1), 2);
        CHECK.due("29 nothing was done", x.undo(), -1);
        CHECK.due("29 join(0, 1)", x.join(0, 1), 0);
        CHECK.same("29 the first", Check.row(x, 0), "1111000000");
        CHECK.same("29 leaves", Check.leaves(x, 0), "5 5");
        CHECK.due("29 the other has none", x.size(1) + x.leaves(1), 0);
        CHECK.due("29 join(2, 0)", x.join(2, 0), 0);
        CHECK.same("29 to one without bits", Check.row(x, 2), "1111000000");
        x.cut(2, 5, 5);
        CHECK.due("29 600 together", x.join(3, 2), 0);
        CHECK.due("29 600 together", x.size(3), 600);
    }

    private static void splitting() {
        BitRopes x = Check.with("leaf 4;row a iiiiooo oii;row b oo;row c;row d " + Check.manyBits(595) + ";");
        CHECK.due("30 split(0, 0, 0)", x.split(0, 0, 0), -1);
        CHECK.due("30 split(0, 0, 4)", x.split(0, 0, 4), -1);
        CHECK.due("30 split(4, 0, 0)", x.split(4, 0, 0), -1);
        CHECK.due("30 no bit at 10", x.split(0, 10, 1), 1);
        CHECK.due("30 no bit at -1", x.split(0, -1, 1), 1);
        CHECK.due("30 no bit at all", x.split(2, 0, 1), 1);
        CHECK.due("30 more than 600", x.split(0, 4, 3), 2);
        CHECK.due("30 nothing was done", x.undo(), -1);
        CHECK.due("30 split(0, 3, 1)", x.split(0, 3, 1), 0);
        CHECK.same("30 here", Check.row(x, 0), "111");
        CHECK.same("30 here", Check.leaves(x, 0), "3");
        CHECK.same("30 there", Check.row(x, 1), "001000011");
        CHECK.same("30 there", Check.leaves(x, 1), "5 4");
        CHECK.due("30 600 there", x.split(1, 4, 3), 0);
        CHECK.due("30 600 there", x.size(3), 600);
        CHECK.due("30 all of it", x.split(1, 0, 2), 0);
        CHECK.due("30 all of it", x.size(1) + x.leaves(1), 0);
        CHECK.same("30 all of it", Check.row(x, 2), "0010");
    }

    private static void undoing() {
        BitRopes x = Check.with("leaf 4;row a iiiioooi;row b oo;letters abc;".replace("iiiioooi", "iiiiooo i"));
        CHECK.due("39 none", x.undo(), -1);
        x.put(0, 8, 1);
        x.set(0, 0, 0);
        x.cut(0, 0, 2);
        x.turn(0, 0, 3);
        Check.bits(x, "11");
        x.paste(0, 1);
        x.join(0, 1);
        x.split(0, 4, 1);
        x.type(0, 7);
        x.erase(1, 2);
        CHECK.same("39 letters", Check.script(x), "hc");
        CHECK.due("39 erase()", x.undo(), 7);
        CHECK.same("39 letters", Check.script(x), "habc");
        CHECK.due("39 type()", x.undo(), 6);
        CHECK.same("39 letters", Check.script(x), "abc");
        CHECK.due("39 split()", x.undo(), 5);
        CHECK.due("39 join()", x.undo(), 4);
        CHECK.same("39 the other", Check.row(x, 1), "00");
        CHECK.due("39 paste()", x.undo(), 3);
        CHECK.due("39 turn()", x.undo(), 2);
        CHECK.same("39 bits", Check.row(x, 0), "1100011");
        CHECK.due("39 cut()", x.undo(), 1);
        CHECK.same("39 bits", Check.row(x, 0), "011100011");
        CHECK.same("39 leaves", Check.leaves(x, 0), "5 4");
        CHECK.due("39 set()", x.undo(), 0);
        CHECK.same("39 bits", Check.row(x, 0), "111100011");
        CHECK.due("39 8 at most are kept", x.undo(), -1);
        x.put(0, 0, 0);
        Check.sentence(x, "even");
        CHECK.due("39 put()", x.undo(), 0);
        CHECK.due("39 the SENTENCE stays", x.said(-1), 2);
        CHECK.same("39 leaves", Check.leaves(x, 0), "5 4");
        undoingMore();
    }

    private static void undoingMore() {
        BitRopes x = Check.with("row a ii;row b;");
        CHECK.due("40 nothing done", x.drawn(1, findSeed(x, 0)), 0);
        CHECK.due("39 not one that did nothing", x.undo(), -1);
        Check.book(x, "put a 0 0;set a 0 0;", 0);
        CHECK.due("39 a BOOK that was judged", x.undo(), -1);
        Check.book(x, "put a 9 0;", 1);
        CHECK.due("39 a BOOK without a LINE lived", x.undo(), -1);
        Check.book(x, "", 1);
        CHECK.due("39 a BOOK without LINES", x.undo(), -1);
        Check.book(x, "put a 0 0;put a 0 0;set a 0 0;", 1);
        CHECK.same("39 bits", Check.row(x, 0), "0011");
        CHECK.due("40 some done", x.drawn(60, 5) > 0, true);
        CHECK.due("39 drawn()", x.undo(), 1);
        CHECK.same("39 bits", Check.row(x, 0), "0011");
        CHECK.due("39 a BOOK", x.undo(), 0);
        CHECK.same("39 bits", Check.row(x, 0), "11");
        for (int k = 0; k < 20; k++) {
            x.put(0, 0, 0);
        }
        for (int k = 7; k >= 0; k--) {
            CHECK.due("39 one of 8", x.undo(), k);
        }
        CHECK.due("39 no more", x.undo(), -1);
        CHECK.due("39 the oldest 12 stay", x.size(0), 14);
    }

    private static int findSeed(BitRopes x, int done) {
        x.image(1);
        int seed = 1;
        while (x.drawn(1, seed) != done) {
            seed++;
        }
        x.restore(1);
        return seed;
    }

    private static void drawing() {
        BitRopes none = new BitRopes();
        CHECK.due("40 no ROWS", none.drawn(60, 7), 0);
        BitRopes x = Check.with("row a;");
        CHECK.due("40 drawn(0, 1)", x.drawn(0, 1), -1);
        CHECK.due("40 drawn(61, 1)", x.drawn(61, 1), -1);
        CHECK.due("40 drawn(-1, 1)", x.drawn(-1, 1), -1);
        // By hand: of seed 5 the first x are 1222621274 (>>> 8: 4775864), -1593238901 (10553626),
        // 695785320 (2717911), 2089129857 (8160663): kind 0, ROW 0, place 0, bit 1.
        CHECK.due("40 drawn(1, 5)", x.drawn(1, 5), 1);
        CHECK.same("40 drawn(1, 5)", Check.row(x, 0), "1");
        BitRopes two = Check.with("leaf 4;row a ioioioi;row b iiooiio;row c;");
        int done = two.drawn(60, -77);
        String bits = Check.row(two, 0) + "/" + Check.row(two, 1) + "/" + Check.row(two, 2);
        two.undo();
        CHECK.due("40 the same again", two.drawn(60, -77), done);
        CHECK.same("40 the same again", Check.row(two, 0) + "/" + Check.row(two, 1) + "/" + Check.row(two, 2), bits);
    }
}
