/** Promises 6 to 23: what a ROW answers. */
public final class QuestionsTest {
    private static final Check CHECK = new Check();

    public static void main(String[] args) {
        bits();
        ranks();
        runsAndWords();
        leavesAndTrees();
        fractions();
        twoRows();
        seeking();
        CHECK.end();
    }

    private static void bits() {
        BitRopes x = Check.with("row a iio oi;row b;");
        CHECK.due("6 size(0)", x.size(0), 5);
        CHECK.due("6 size(1)", x.size(1), 0);
        CHECK.due("6 size(2)", x.size(2), -1);
        CHECK.due("6 size(-1)", x.size(-1), -1);
        CHECK.due("6 size(max)", x.size(Integer.MAX_VALUE), -1);
        CHECK.due("7 bit(0, 1)", x.bit(0, 1), 1);
        CHECK.due("7 bit(0, 2)", x.bit(0, 2), 0);
        CHECK.due("7 bit(0, 5)", x.bit(0, 5), -1);
        CHECK.due("7 bit(0, -1)", x.bit(0, -1), -1);
        CHECK.due("7 bit(1, 0)", x.bit(1, 0), -1);
        CHECK.due("7 bit(2, 0)", x.bit(2, 0), -1);
    }

    private static void ranks() {
        BitRopes x = Check.with("row a iio oi;row b;");
        CHECK.due("8 rank(0, 0, 1)", x.rank(0, 0, 1), 0);
        CHECK.due("8 rank(0, 5, 1)", x.rank(0, 5, 1), 3);
        CHECK.due("8 rank(0, 4, 0)", x.rank(0, 4, 0), 2);
        CHECK.due("8 rank(0, 6, 0)", x.rank(0, 6, 0), -1);
        CHECK.due("8 rank(0, -1, 0)", x.rank(0, -1, 0), -1);
        CHECK.due("8 rank(0, 1, 2)", x.rank(0, 1, 2), -1);
        CHECK.due("8 rank(0, 1, -1)", x.rank(0, 1, -1), -1);
        CHECK.due("8 rank(1, 0, 0)", x.rank(1, 0, 0), 0);
        CHECK.due("8 rank(2, 0, 0)", x.rank(2, 0, 0), -1);
        CHECK.due("9 select(0, 0, 1)", x.select(0, 0, 1), 0);
        CHECK.due("9 select(0, 2, 1)", x.select(0, 2, 1), 4);
        CHECK.due("9 select(0, 3, 1)", x.select(0, 3, 1), -1);
        CHECK.due("9 select(0, 1, 0)", x.select(0, 1, 0), 3);
        CHECK.due("9 select(0, -1, 0)", x.select(0, -1, 0), -1);
        CHECK.due("9 select(0, 0, 2)", x.select(0, 0, 2), -1);
        CHECK.due("9 select(3, 0, 1)", x.select(3, 0, 1), -1);
        CHECK.due("10 find(0, 2, 1)", x.find(0, 2, 1), 4);
        CHECK.due("10 find(0, 0, 0)", x.find(0, 0, 0), 2);
        CHECK.due("10 find(0, 3, 0)", x.find(0, 3, 0), 3);
        CHECK.due("10 find(0, 4, 0)", x.find(0, 4, 0), -1);
        CHECK.due("10 find(0, 5, 1)", x.find(0, 5, 1), -1);
        CHECK.due("10 find(0, 2000000000, 1)", x.find(0, 2000000000, 1), -1);
        CHECK.due("10 find(0, -1, 1)", x.find(0, -1, 1), -1);
        CHECK.due("10 find(0, 0, 2)", x.find(0, 0, 2), -1);
        CHECK.due("10 find(4, 0, 1)", x.find(4, 0, 1), -1);
    }

    private static void runsAndWords() {
        BitRopes x = Check.with("row a iiooi;row b;row c iiiiiii ooooooo iiiiiii ooooooo iiiiiii;");
        CHECK.due("11 runs(0)", x.runs(0), 3);
        CHECK.due("11 runs(1)", x.runs(1), 0);
        CHECK.due("11 runs(2)", x.runs(2), 5);
        CHECK.due("11 runs(3)", x.runs(3), -1);
        CHECK.due("12 longest(0, 1)", x.longest(0, 1), 2);
        CHECK.due("12 longest(0, 0)", x.longest(0, 0), 2);
        CHECK.due("12 longest(1, 0)", x.longest(1, 0), 0);
        CHECK.due("12 longest(2, 1)", x.longest(2, 1), 7);
        CHECK.due("12 longest(0, 2)", x.longest(0, 2), -1);
        CHECK.due("12 longest(-1, 0)", x.longest(-1, 0), -1);
        CHECK.due("13 word(0, 0)", x.word(0, 0), 0xC8000000);
        CHECK.due("13 word(0, 4)", x.word(0, 4), 0x80000000);
        CHECK.due("13 word(0, 5)", x.word(0, 5), 0);
        CHECK.due("13 word(1, 0)", x.word(1, 0), 0);
        CHECK.due("13 word(2, 0)", x.word(2, 0), 0b11111110000000111111100000001111);
        CHECK.due("13 word(2, 3)", x.word(2, 3), 0b11110000000111111100000001111111);
        CHECK.noSuchElement("13 word(0, 6)", () -> x.word(0, 6));
        CHECK.noSuchElement("13 word(0, -1)", () -> x.word(0, -1));
        CHECK.noSuchElement("13 word(3, 0)", () -> x.word(3, 0));
    }

    private static void leavesAndTrees() {
        BitRopes x = Check.with("leaf 4;row a " + Check.manyBits(31) + ";row b;row c iio;");
        CHECK.same("14 leaves as told", Check.leaves(x, 0), "5 5 5 5 5 6");
        CHECK.due("14 leaves(0)", x.leaves(0), 6);
        CHECK.due("14 leaves(1)", x.leaves(1), 0);
        CHECK.due("14 leaves(3)", x.leaves(3), -1);
        CHECK.due("15 leaf(0, 1, 0)", x.leaf(0, 1, 0), 5);
        CHECK.due("15 leaf(0, 1, 1)", x.leaf(0, 1, 1), 3);
        CHECK.due("15 leaf(0, 2, 1)", x.leaf(0, 2, 1), 2);
        CHECK.due("15 leaf(0, 5, 2)", x.leaf(0, 5, 2), 25);
        CHECK.due("15 leaf(0, 0, 2)", x.leaf(0, 0, 2), 0);
        CHECK.due("15 leaf(0, 6, 0)", x.leaf(0, 6, 0), -1);
        CHECK.due("15 leaf(0, -1, 0)", x.leaf(0, -1, 0), -1);
        CHECK.due("15 leaf(0, 0, 3)", x.leaf(0, 0, 3), -1);
        CHECK.due("15 leaf(0, 0, -1)", x.leaf(0, 0, -1), -1);
        CHECK.due("15 leaf(1, 0, 0)", x.leaf(1, 0, 0), -1);
        CHECK.due("15 leaf(3, 0, 0)", x.leaf(3, 0, 0), -1);
        // Six leaves: three and three, each two and one.
        CHECK.due("16 height of 6", x.tree(0, 0), 3);
        CHECK.due("16 inner of 6", x.tree(0, 1), 5);
        CHECK.due("16 mixed of 6", x.tree(0, 2), 2);
        CHECK.due("16 cost of 6", x.tree(0, 3), 6 * 5 + 5 * 5);
        CHECK.due("16 height of none", x.tree(1, 0), 0);
        CHECK.due("16 inner of none", x.tree(1, 1), 0);
        CHECK.due("16 mixed of none", x.tree(1, 2), 0);
        CHECK.due("16 cost of none", x.tree(1, 3), 0);
        CHECK.due("16 height of 1", x.tree(2, 0), 0);
        CHECK.due("16 cost of 1", x.tree(2, 3), 5);
        CHECK.due("16 tree(0, 4)", x.tree(0, 4), -1);
        CHECK.due("16 tree(0, -1)", x.tree(0, -1), -1);
        CHECK.due("16 tree(3, 0)", x.tree(3, 0), -1);
        BitRopes wide = Check.with("leaf 32;row a " + Check.manyBits(64) + ";row b " + Check.manyBits(65) + ";");
        CHECK.same("14 as many as a leaf holds", Check.leaves(wide, 0), "64");
        CHECK.due("16 cost of 64", wide.tree(0, 3), 6);
        CHECK.same("14 one more", Check.leaves(wide, 1), "33 32");
        CHECK.due("16 cost of 33 and 32", wide.tree(1, 3), 2 + 4 + 1 + 4 + 5);
        BitRopes full = Check.with("leaf 4;row a " + Check.manyBits(600) + ";");
        CHECK.due("14 of 600", full.leaves(0), 120);
        CHECK.due("16 height of 120", full.tree(0, 0), 7);
        CHECK.due("16 inner of 120", full.tree(0, 1), 119);
    }

    private static void fractions() {
        BitRopes x = Check.with("row a iioiooi;row b;row c i;row d oo;");
        CHECK.due("17 dense(0, 0, 7)", x.dense(0, 0, 7), Float.floatToIntBits(4f / 7f));
        CHECK.due("17 dense(0, 0, 3)", x.dense(0, 0, 3), Float.floatToIntBits(2f / 3f));
        CHECK.due("17 dense(0, 0, 2)", x.dense(0, 0, 2), Float.floatToIntBits(1f));
        CHECK.due("17 dense(0, 4, 2)", x.dense(0, 4, 2), 0);
        CHECK.due("17 dense(0, 6, 1)", x.dense(0, 6, 1), Float.floatToIntBits(1f));
        CHECK.noSuchElement("17 dense(0, 0, 0)", () -> x.dense(0, 0, 0));
        CHECK.noSuchElement("17 dense(0, 0, -1)", () -> x.dense(0, 0, -1));
        CHECK.noSuchElement("17 dense(0, 7, 1)", () -> x.dense(0, 7, 1));
        CHECK.noSuchElement("17 dense(0, -1, 2)", () -> x.dense(0, -1, 2));
        CHECK.noSuchElement("17 dense(0, 1, max)", () -> x.dense(0, 1, Integer.MAX_VALUE));
        CHECK.noSuchElement("17 dense(0, max, 1)", () -> x.dense(0, Integer.MAX_VALUE, 1));
        CHECK.noSuchElement("17 dense(4, 0, 1)", () -> x.dense(4, 0, 1));
        CHECK.due("18 load(0)", x.load(0), Float.floatToIntBits(160f / 7f));
        CHECK.due("18 load(2)", x.load(2), Float.floatToIntBits(160f));
        CHECK.noSuchElement("18 load(1)", () -> x.load(1));
        CHECK.noSuchElement("18 load(4)", () -> x.load(4));
        CHECK.noSuchElement("18 load(-1)", () -> x.load(-1));
        long centre = Double.doubleToLongBits(10.0 / 4.0);
        CHECK.due("19 centre(0, 0)", x.centre(0, 0), (int) (centre >>> 32));
        CHECK.due("19 centre(0, 1)", x.centre(0, 1), (int) centre);
        CHECK.due("19 centre(2, 0)", x.centre(2, 0), 0);
        CHECK.due("19 centre(2, 1)", x.centre(2, 1), 0);
        CHECK.noSuchElement("19 centre(0, 2)", () -> x.centre(0, 2));
        CHECK.noSuchElement("19 centre(0, -1)", () -> x.centre(0, -1));
        CHECK.noSuchElement("19 centre(1, 0)", () -> x.centre(1, 0));
        CHECK.noSuchElement("19 centre(3, 0)", () -> x.centre(3, 0));
        CHECK.noSuchElement("19 centre(4, 0)", () -> x.centre(4, 0));
        manyFractions();
    }

    private static void manyFractions() {
        BitRopes x = Check.with("row a " + Check.manyBits(600) + ";");
        x.turn(0, 100, 300);
        x.cut(0, 3, 1);
        x.turn(0, 0, 17);
        for (int n = 1; n <= 599; n += 7) {
            for (int i = 0; i + n <= 599; i += 13) {
                float ones = x.rank(0, i + n, 1) - x.rank(0, i, 1);
                CHECK.due("17 dense(0, " + i + ", " + n + ")", x.dense(0, i, n), Float.floatToIntBits(ones / n));
            }
        }
        for (int k = 0; x.size(0) > 0; k++) {
            double sum = 0;
            int ones = 0;
            for (int i = x.find(0, 0, 1); i != BitRopes.NONE; i = x.find(0, i + 1, 1)) {
                sum += i;
                ones++;
            }
            if (ones > 0) {
                long bits = Double.doubleToLongBits(sum / ones);
                CHECK.due("19 centre(0, 0) " + k, x.centre(0, 0), (int) (bits >>> 32));
                CHECK.due("19 centre(0, 1) " + k, x.centre(0, 1), (int) bits);
            }
            float load = (float) (32 * x.tree(0, 3)) / (float) x.size(0);
            CHECK.due("18 load(0) " + k, x.load(0), Float.floatToIntBits(load));
            x.cut(0, k * 31 % x.size(0), 1);
        }
    }

    private static void twoRows() {
        BitRopes x = Check.with("row a iioo;row b iioo;row c ioooii;row d;");
        CHECK.due("20 apart(0, 1)", x.apart(0, 1), 0);
        CHECK.due("20 apart(0, 2)", x.apart(0, 2), 3);
        CHECK.due("20 apart(2, 0)", x.apart(2, 0), 3);
        CHECK.due("20 apart(3, 2)", x.apart(3, 2), 6);
        CHECK.due("20 apart(3, 3)", x.apart(3, 3), 0);
        CHECK.due("20 apart(0, 4)", x.apart(0, 4), -1);
        CHECK.due("20 apart(-1, 0)", x.apart(-1, 0), -1);
        CHECK.due("21 differ(0, 1)", x.differ(0, 1), -1);
        CHECK.due("21 differ(0, 2)", x.differ(0, 2), 1);
        CHECK.due("21 differ(3, 2)", x.differ(3, 2), 0);
        CHECK.due("21 differ(3, 3)", x.differ(3, 3), -1);
        CHECK.due("21 differ(0, 4)", x.differ(0, 4), -1);
        x.put(1, 4, 0);
        CHECK.due("21 differ(0, 1), one more", x.differ(0, 1), 4);
        CHECK.due("21 differ(1, 0), one more", x.differ(1, 0), 4);
    }

    private static void seeking() {
        BitRopes x = Check.with("row a ioioioi;row b;");
        CHECK.due("23 ahead of any", x.seekAt(0), -1);
        Check.bits(x, "101");
        CHECK.due("22 over one another", x.seek(0), 3);
        CHECK.due("22 the tape is empty", x.total(3), 0);
        CHECK.due("23 seekAt(0)", x.seekAt(0), 0);
        CHECK.due("23 seekAt(2)", x.seekAt(2), 4);
        CHECK.due("23 seekAt(3)", x.seekAt(3), -1);
        CHECK.due("23 seekAt(-1)", x.seekAt(-1), -1);
        CHECK.due("22 an empty tape", x.seek(0), -1);
        Check.bits(x, "12");
        CHECK.due("22 a byte above 1", x.seek(0), -1);
        CHECK.due("22 the tape is empty", x.total(3), 0);
        Check.bits(x, "1");
        CHECK.due("22 no such ROW", x.seek(2), -1);
        CHECK.due("22 the tape is empty", x.total(3), 0);
        Check.bits(x, "0".repeat(33));
        CHECK.due("22 33 bits", x.seek(0), -1);
        x.cut(0, 0, 7);
        CHECK.due("23 by the latest that was not NONE", x.seekAt(2), 4);
        Check.bits(x, "1");
        CHECK.due("22 none", x.seek(0), 0);
        CHECK.due("23 none", x.seekAt(0), -1);
        BitRopes full = Check.with("row a " + Check.manyBits(600) + ";");
        Check.bits(full, "01".repeat(16));
        CHECK.due("22 32 bits", full.seek(0), 285);
        CHECK.due("23 the last", full.seekAt(284), 568);
    }
}
