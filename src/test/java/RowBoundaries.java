/** Boundaries of what is asked of ROWS: promises 6 to 23, TREE and the fractions. */
final class RowBoundaries {
    private static final int MIN = Integer.MIN_VALUE;
    private static final int MAX = Integer.MAX_VALUE;
    // Of a ROOM with three ROWS.
    private static final int[] NO_ROWS = {-1, 3, 4, MIN, MAX};
    private static final int[] NO_BITS = {-1, 2, MIN, MAX};

    private RowBoundaries() {
    }

    static void check() {
        sizesAndBits();
        ranks();
        selects();
        finds();
        runs();
        longestRuns();
        words();
        leaves();
        leavesOne();
        trees();
        costs();
        dense();
        load();
        centre();
        apart();
        differ();
        seek();
        seekAt();
        throwing();
    }

    /** Rows a (iiooi), b (no bits), c (600 bits, oioi..). */
    static BitRopes three() {
        return Check.with("leaf 4;row a iiooi;row b;row c " + Check.manyBits(600) + ";");
    }

    private static void sizesAndBits() {
        BitRopes x = three();
        Boundary.says(6, "How many bits a ROW has");
        Boundary.due("size(0)", x.size(0), 5);
        Boundary.due("size(1), none", x.size(1), 0);
        Boundary.due("size(2), full", x.size(2), 600);
        Boundary.says(6, "NONE: no such one.");
        Boundary.says(7, "none, no such ROW.");
        for (int r : NO_ROWS) {
            Boundary.due("size(" + r + ")", x.size(r), -1);
            Boundary.due("bit(" + r + ", 0)", x.bit(r, 0), -1);
        }
        Boundary.due("bit(1, 0) of no bits", x.bit(1, 0), -1);
        for (int i : new int[] {-1, 5, 6, MIN, MAX}) {
            Boundary.due("bit(0, " + i + ")", x.bit(0, i), -1);
        }
        Boundary.due("bit(2, 600)", x.bit(2, 600), -1);
        Boundary.says(7, "The bit at place i");
        Boundary.says(Document.LEAVES, "The bits of a ROW have places from 0 on.");
        Boundary.due("bit(0, 0)", x.bit(0, 0), 1);
        Boundary.due("bit(0, 4)", x.bit(0, 4), 1);
        Boundary.due("bit(0, 3)", x.bit(0, 3), 0);
        Boundary.due("bit(2, 0)", x.bit(2, 0), 0);
        Boundary.due("bit(2, 599)", x.bit(2, 599), 1);
    }

    private static void ranks() {
        BitRopes x = three();
        Boundary.says(8, "How many bits b (0, 1) are ahead of place i (0 to the size)");
        Boundary.due("rank(0, 0, 0)", x.rank(0, 0, 0), 0);
        Boundary.due("rank(0, 0, 1)", x.rank(0, 0, 1), 0);
        Boundary.due("rank(0, 1, 1)", x.rank(0, 1, 1), 1);
        Boundary.due("rank(0, 4, 1)", x.rank(0, 4, 1), 2);
        Boundary.due("rank(0, 5, 1)", x.rank(0, 5, 1), 3);
        Boundary.due("rank(0, 5, 0)", x.rank(0, 5, 0), 2);
        Boundary.due("rank(1, 0, 0)", x.rank(1, 0, 0), 0);
        Boundary.due("rank(1, 0, 1)", x.rank(1, 0, 1), 0);
        Boundary.due("rank(2, 600, 1)", x.rank(2, 600, 1), 300);
        Boundary.due("rank(2, 599, 0)", x.rank(2, 599, 0), 300);
        Boundary.says(8, "NONE: no such ones.");
        for (int i : new int[] {-1, 6, MIN, MAX}) {
            Boundary.due("rank(0, " + i + ", 1)", x.rank(0, i, 1), -1);
        }
        Boundary.due("rank(1, 1, 0)", x.rank(1, 1, 0), -1);
        Boundary.due("rank(2, 601, 0)", x.rank(2, 601, 0), -1);
        for (int r : NO_ROWS) {
            Boundary.due("rank(" + r + ", 0, 0)", x.rank(r, 0, 0), -1);
        }
        for (int b : NO_BITS) {
            Boundary.due("rank(0, 0, " + b + ")", x.rank(0, 0, b), -1);
        }
    }

    private static void selects() {
        BitRopes x = three();
        Boundary.says(9, "Where the k-th (from 0) bit b is");
        Boundary.due("select(0, 0, 1)", x.select(0, 0, 1), 0);
        Boundary.due("select(0, 2, 1)", x.select(0, 2, 1), 4);
        Boundary.due("select(0, 0, 0)", x.select(0, 0, 0), 2);
        Boundary.due("select(0, 1, 0)", x.select(0, 1, 0), 3);
        Boundary.due("select(2, 299, 0)", x.select(2, 299, 0), 598);
        Boundary.due("select(2, 299, 1)", x.select(2, 299, 1), 599);
        Boundary.says(9, "none such, no such ones.");
        Boundary.due("select(0, 3, 1)", x.select(0, 3, 1), -1);
        Boundary.due("select(0, 2, 0)", x.select(0, 2, 0), -1);
        Boundary.due("select(1, 0, 0)", x.select(1, 0, 0), -1);
        Boundary.due("select(1, 0, 1)", x.select(1, 0, 1), -1);
        Boundary.due("select(2, 300, 1)", x.select(2, 300, 1), -1);
        for (int k : new int[] {-1, MIN, MAX}) {
            Boundary.due("select(0, " + k + ", 1)", x.select(0, k, 1), -1);
            Boundary.due("select(0, " + k + ", 0)", x.select(0, k, 0), -1);
        }
        for (int r : NO_ROWS) {
            Boundary.due("select(" + r + ", 0, 1)", x.select(r, 0, 1), -1);
        }
        for (int b : NO_BITS) {
            Boundary.due("select(0, 0, " + b + ")", x.select(0, 0, b), -1);
        }
        x.turn(0, 2, 2);
        Boundary.due("select(0, 0, 0) of ones alone", x.select(0, 0, 0), -1);
        Boundary.due("select(0, 4, 1) of ones alone", x.select(0, 4, 1), 4);
    }

    private static void finds() {
        BitRopes x = three();
        Boundary.says(10, "The first place from i on (i 0 and more) with a bit b");
        Boundary.due("find(0, 0, 1)", x.find(0, 0, 1), 0);
        Boundary.due("find(0, 0, 0)", x.find(0, 0, 0), 2);
        Boundary.due("find(0, 2, 0)", x.find(0, 2, 0), 2);
        Boundary.due("find(0, 2, 1)", x.find(0, 2, 1), 4);
        Boundary.due("find(0, 4, 1)", x.find(0, 4, 1), 4);
        Boundary.due("find(2, 599, 1)", x.find(2, 599, 1), 599);
        Boundary.says(10, "none (none is behind the size), no such ones.");
        Boundary.due("find(0, 4, 0)", x.find(0, 4, 0), -1);
        for (int i : new int[] {-1, 5, 6, MIN, MAX}) {
            Boundary.due("find(0, " + i + ", 1)", x.find(0, i, 1), -1);
            Boundary.due("find(0, " + i + ", 0)", x.find(0, i, 0), -1);
        }
        Boundary.due("find(1, 0, 0)", x.find(1, 0, 0), -1);
        Boundary.due("find(2, 599, 0)", x.find(2, 599, 0), -1);
        Boundary.due("find(2, 600, 1)", x.find(2, 600, 1), -1);
        for (int r : NO_ROWS) {
            Boundary.due("find(" + r + ", 0, 1)", x.find(r, 0, 1), -1);
        }
        for (int b : NO_BITS) {
            Boundary.due("find(0, 0, " + b + ")", x.find(0, 0, b), -1);
        }
    }

    private static BitRopes one(String bits) {
        BitRopes x = Check.with("leaf 4;row a;");
        for (int k = 0; k < bits.length(); k++) {
            x.put(0, k, bits.charAt(k) - '0');
        }
        return x;
    }

    private static void runs() {
        Boundary.says(11, "RUNS of a ROW");
        Boundary.says(Document.TREES, "RUNS of a ROW: of like bits in a row, as long as they go.");
        Boundary.due("none", one("").runs(0), 0);
        Boundary.due("0", one("0").runs(0), 1);
        Boundary.due("1", one("1").runs(0), 1);
        Boundary.due("00", one("00").runs(0), 1);
        Boundary.due("10", one("10").runs(0), 2);
        Boundary.due("0110", one("0110").runs(0), 3);
        Boundary.due("over LEAVES", one("1111111111111").runs(0), 1);
        BitRopes x = three();
        Boundary.due("600 by turns", x.runs(2), 600);
        Boundary.says(11, "NONE: no such one.");
        for (int r : NO_ROWS) {
            Boundary.due("runs(" + r + ")", x.runs(r), -1);
        }
    }

    private static void longestRuns() {
        Boundary.says(12, "How long the longest run of bits b is (0: none)");
        Boundary.due("none, 0", one("").longest(0, 0), 0);
        Boundary.due("none, 1", one("").longest(0, 1), 0);
        Boundary.due("000, 1", one("000").longest(0, 1), 0);
        Boundary.due("000, 0", one("000").longest(0, 0), 3);
        Boundary.due("1, 1", one("1").longest(0, 1), 1);
        Boundary.due("the first", one("110100").longest(0, 1), 2);
        Boundary.due("the last", one("110100").longest(0, 0), 2);
        Boundary.due("the last but one", one("1011100").longest(0, 1), 3);
        Boundary.due("over LEAVES", one("0111111111111").longest(0, 1), 12);
        BitRopes x = three();
        Boundary.due("600 by turns", x.longest(2, 0), 1);
        Boundary.says(12, "no such ones.");
        for (int r : NO_ROWS) {
            Boundary.due("longest(" + r + ", 0)", x.longest(r, 0), -1);
        }
        for (int b : NO_BITS) {
            Boundary.due("longest(0, " + b + ")", x.longest(0, b), -1);
        }
    }

    private static void words() {
        Boundary.says(13, "32 bits from place i on (0 to the size), the first the highest (the sign)");
        BitRopes x = one("1" + "0".repeat(31) + "1");
        Boundary.due("word(0, 0)", x.word(0, 0), MIN);
        Boundary.due("word(0, 1)", x.word(0, 1), 1);
        Boundary.due("all ones", one("1".repeat(40)).word(0, 8), -1);
        Boundary.due("all noughts", one("0".repeat(40)).word(0, 8), 0);
        Boundary.due("all but the sign", one("0" + "1".repeat(31)).word(0, 0), MAX);
        Boundary.says(13, "behind the end 0.");
        Boundary.due("31 bits", one("1".repeat(31)).word(0, 0), -2);
        Boundary.due("word(0, 2)", x.word(0, 2), 2);
        Boundary.due("the last bit", x.word(0, 32), MIN);
        Boundary.due("the size", x.word(0, 33), 0);
        Boundary.due("a ROW without bits", one("").word(0, 0), 0);
        BitRopes three = three();
        Boundary.due("word(2, 568)", three.word(2, 568), 0x55555555);
        Boundary.due("word(2, 599)", three.word(2, 599), MIN);
        Boundary.due("word(2, 598)", three.word(2, 598), 0x40000000);
        Boundary.due("word(2, 600)", three.word(2, 600), 0);
        Boundary.says(13, "NoSuchElementException: no such ones.");
        for (int i : new int[] {-1, 34, 35, MIN, MAX}) {
            Boundary.throwsIt("word(0, " + i + ")", () -> x.word(0, i));
        }
        Boundary.throwsIt("word(1, 1) of no bits", () -> three.word(1, 1));
        Boundary.throwsIt("word(2, 601)", () -> three.word(2, 601));
        for (int r : NO_ROWS) {
            Boundary.throwsIt("word(" + r + ", 0)", () -> three.word(r, 0));
        }
    }

    private static BitRopes withBits(int low, int n) {
        return Check.with("leaf " + low + ";row a " + Check.manyBits(n) + ";");
    }

    private static void leaves() {
        Boundary.says(14, "How many LEAVES");
        Boundary.due("of no bits", withBits(4, 0).leaves(0), 0);
        Boundary.due("of 1 bit", withBits(4, 1).leaves(0), 1);
        Boundary.due("of 8 bits", withBits(4, 8).leaves(0), 1);
        Boundary.due("of 9 bits", withBits(4, 9).leaves(0), 2);
        Boundary.due("of 13 bits", withBits(4, 13).leaves(0), 2);
        Boundary.due("of 14 bits", withBits(4, 14).leaves(0), 3);
        Boundary.due("of 600 bits", withBits(4, 600).leaves(0), 120);
        Boundary.due("of 64 bits, LOW 32", withBits(32, 64).leaves(0), 1);
        Boundary.due("of 600 bits, LOW 32", withBits(32, 600).leaves(0), 18);
        BitRopes x = new BitRopes();
        Check.room(x, "leaf 4;row a;");
        for (int k = 0; k < 15; k++) {
            Check.book(x, "put a 0 1;".repeat(40), 1);
        }
        // All but the first have as few as may be.
        Boundary.due("of 600 bits PUT at place 0", x.leaves(0), 149);
        Boundary.due("its first", x.leaf(0, 0, 0), 8);
        Boundary.due("its last", x.leaf(0, 148, 0), 4);
        Boundary.due("its last's place", x.leaf(0, 148, 2), 596);
        Boundary.due("its height", x.tree(0, 0), 8);
        Boundary.due("its cost", x.tree(0, 3), 149 * 5 + 148 * 5);
        Boundary.says(14, "no such ROW.");
        for (int r : new int[] {-1, 1, 4, MIN, MAX}) {
            Boundary.due("leaves(" + r + ")", x.leaves(r), -1);
        }
    }

    private static void leavesOne() {
        BitRopes x = three();
        Boundary.says(15, "Of the k-th LEAF (from 0): 0 how many bits, 1 ones, 2 the place of its first bit.");
        Boundary.says(Document.LEAVES, "They lie in LEAVES, one behind the other.");
        Boundary.due("leaf(0, 0, 0)", x.leaf(0, 0, 0), 5);
        Boundary.due("leaf(0, 0, 1)", x.leaf(0, 0, 1), 3);
        Boundary.due("leaf(0, 0, 2)", x.leaf(0, 0, 2), 0);
        int place = 0;
        for (int k = 0; k < 120; k++) {
            Boundary.due("leaf(2, " + k + ", 2)", x.leaf(2, k, 2), place);
            place += x.leaf(2, k, 0);
            Boundary.due("leaf(2, " + k + ", 1)", x.leaf(2, k, 1), x.rank(2, place, 1) - x.rank(2, x.leaf(2, k, 2), 1));
            if (k == 60) {
                // Not more than 512 calls of one object.
                x = three();
            }
        }
        Boundary.due("bits of all", place, 600);
        Boundary.says(15, "NONE: no such ones.");
        x = three();
        for (int k : new int[] {-1, 1, 2, MIN, MAX}) {
            Boundary.due("leaf(0, " + k + ", 0)", x.leaf(0, k, 0), -1);
        }
        Boundary.due("leaf(1, 0, 0) of no bits", x.leaf(1, 0, 0), -1);
        Boundary.due("leaf(2, 120, 0)", x.leaf(2, 120, 0), -1);
        for (int what : new int[] {-1, 3, MIN, MAX}) {
            Boundary.due("leaf(0, 0, " + what + ")", x.leaf(0, 0, what), -1);
        }
        for (int r : NO_ROWS) {
            Boundary.due("leaf(" + r + ", 0, 0)", x.leaf(r, 0, 0), -1);
        }
    }

    /** Height, INNER ones and MIXED ones over n LEAVES. */
    private static int[] tree(int n) {
        if (n <= 1) {
            return new int[] {0, 0, 0};
        }
        int[] first = tree(n - n / 2);
        int[] rest = tree(n / 2);
        boolean mixed = n - n / 2 == 1 ^ n / 2 == 1;
        return new int[] {1 + Math.max(first[0], rest[0]), 1 + first[1] + rest[1], first[2] + rest[2] + (mixed ? 1 : 0)};
    }

    private static void trees() {
        Boundary.says(16, "Of the TREE of a ROW: 0 HEIGHT, 1 INNER ones, 2 MIXED ones, 3 COST.");
        Boundary.says(Document.TREES, "TREE over the LEAVES of a ROW: of n LEAVES, if n is above 1, an INNER one over the first half "
            + "(one more, if n is odd) and the rest, each likewise; HEIGHT: the most INNER ones above a LEAF. "
            + "MIXED: INNER ones with just one LEAF directly below.");
        int[][] byHand = {{0, 0, 0}, {0, 0, 0}, {1, 1, 0}, {2, 2, 1}, {2, 3, 0}, {3, 4, 1}, {3, 5, 2}, {3, 6, 1}, {3, 7, 0}, {4, 8, 1}};
        for (int n = 0; n <= 120; n++) {
            // As told there are n - 1 LEAVES of 5 and one of 8.
            BitRopes x = withBits(4, n == 0 ? 0 : 5 * n + 3 > 600 ? 600 : 5 * n + 3);
            Boundary.due("leaves of " + n, x.leaves(0), n);
            int[] due = n < byHand.length ? byHand[n] : tree(n);
            Boundary.due("height of " + n, x.tree(0, 0), due[0]);
            Boundary.due("inner of " + n, x.tree(0, 1), due[1]);
            Boundary.due("mixed of " + n, x.tree(0, 2), due[2]);
            Boundary.due("cost of " + n, x.tree(0, 3), n * 5 + due[1] * 5);
        }
        BitRopes x = three();
        Boundary.says(16, "NONE: no such ones.");
        for (int what : new int[] {-1, 4, MIN, MAX}) {
            Boundary.due("tree(0, " + what + ")", x.tree(0, what), -1);
        }
        for (int r : NO_ROWS) {
            for (int what = 0; what < 4; what++) {
                Boundary.due("tree(" + r + ", " + what + ")", x.tree(r, what), -1);
            }
        }
    }

    private static void costs() {
        Boundary.says(Document.TREES, "LEAF by LEAF (each by itself) words of 32 bits, what is begun counted whole, and 4 more for each LEAF, "
            + "and 5 for each INNER one.");
        Boundary.says(Document.TREES, "COST of a ROW:");
        Boundary.due("no bits", withBits(32, 0).tree(0, 3), 0);
        Boundary.due("1 bit", withBits(32, 1).tree(0, 3), 5);
        Boundary.due("32 bits", withBits(32, 32).tree(0, 3), 5);
        Boundary.due("33 bits", withBits(32, 33).tree(0, 3), 6);
        Boundary.due("64 bits", withBits(32, 64).tree(0, 3), 6);
        Boundary.due("33 and 32 bits", withBits(32, 65).tree(0, 3), 6 + 5 + 5);
        Boundary.due("33 and 33 bits", withBits(32, 66).tree(0, 3), 6 + 6 + 5);
        Boundary.due("9 and 8 bits", withBits(8, 17).tree(0, 3), 5 + 5 + 5);
        Boundary.due("17 by 33 and 39 bits", withBits(32, 600).tree(0, 3), 18 * 6 + 17 * 5);
    }

    private static int bits(float f) {
        return Float.floatToIntBits(f);
    }

    private static void dense() {
        BitRopes x = three();
        Boundary.says(17, "DENSE of n bits (1 and more) from place i on: the bits of the float.");
        Boundary.says(Document.TREES, "By bits of floats and doubles as the machine has them: DENSE: ones of a range by how many bits it has: "
            + "both as floats, divided.");
        Boundary.due("a one", x.dense(0, 0, 1), bits(1f));
        Boundary.due("a nought", x.dense(0, 2, 1), bits(0f));
        Boundary.due("the last", x.dense(0, 4, 1), bits(1f));
        Boundary.due("all", x.dense(0, 0, 5), bits(3f / 5f));
        Boundary.due("no ones", x.dense(0, 2, 2), 0);
        Boundary.due("a third", x.dense(0, 2, 3), bits(1f / 3f));
        Boundary.due("600", x.dense(2, 0, 600), bits(0.5f));
        Boundary.due("599", x.dense(2, 0, 599), bits(299f / 599f));
        Boundary.due("the last of 600", x.dense(2, 599, 1), bits(1f));
        Boundary.says(17, "NoSuchElementException: some are not there, no such ROW.");
        for (int n : new int[] {0, -1, 6, MIN, MAX}) {
            Boundary.throwsIt("dense(0, 0, " + n + ")", () -> x.dense(0, 0, n));
        }
        for (int i : new int[] {-1, 5, MIN, MAX}) {
            Boundary.throwsIt("dense(0, " + i + ", 1)", () -> x.dense(0, i, 1));
        }
        Boundary.throwsIt("dense(0, -1, 2)", () -> x.dense(0, -1, 2));
        Boundary.throwsIt("dense(0, 1, 5)", () -> x.dense(0, 1, 5));
        Boundary.throwsIt("dense(0, 1, max)", () -> x.dense(0, 1, MAX));
        Boundary.throwsIt("dense(0, max, max)", () -> x.dense(0, MAX, MAX));
        Boundary.throwsIt("dense(0, min, min)", () -> x.dense(0, MIN, MIN));
        Boundary.throwsIt("dense(1, 0, 1) of no bits", () -> x.dense(1, 0, 1));
        Boundary.throwsIt("dense(1, 0, 0) of no bits", () -> x.dense(1, 0, 0));
        Boundary.throwsIt("dense(2, 0, 601)", () -> x.dense(2, 0, 601));
        for (int r : NO_ROWS) {
            Boundary.throwsIt("dense(" + r + ", 0, 1)", () -> x.dense(r, 0, 1));
        }
    }

    private static void load() {
        Boundary.says(18, "LOAD of a ROW: the bits of the float.");
        Boundary.says(Document.TREES, "LOAD: 32 by COST by how many bits there are: both as floats, divided.");
        Boundary.due("1 bit", withBits(4, 1).load(0), bits(160f));
        Boundary.due("3 bits", withBits(4, 3).load(0), bits(160f / 3f));
        Boundary.due("9 bits", withBits(4, 9).load(0), bits(480f / 9f));
        Boundary.due("600 bits", withBits(4, 600).load(0), bits(32f * (120 * 5 + 119 * 5) / 600f));
        Boundary.due("600 bits, LOW 32", withBits(32, 600).load(0), bits(32f * (18 * 6 + 17 * 5) / 600f));
        BitRopes x = three();
        Boundary.says(18, "NoSuchElementException: it has no bits, no such one.");
        Boundary.throwsIt("load(1)", () -> x.load(1));
        for (int r : NO_ROWS) {
            Boundary.throwsIt("load(" + r + ")", () -> x.load(r));
        }
        x.cut(0, 0, 4);
        Boundary.due("load(0) of the last bit", x.load(0), bits(160f));
        x.cut(0, 0, 1);
        Boundary.throwsIt("load(0), cut whole", () -> x.load(0));
    }

    private static void centreIs(BitRopes x, int r, double due) {
        long bits = Double.doubleToLongBits(due);
        Boundary.due("centre(" + r + ", 0) " + due, x.centre(r, 0), (int) (bits >>> 32));
        Boundary.due("centre(" + r + ", 1) " + due, x.centre(r, 1), (int) bits);
    }

    private static void centre() {
        Boundary.says(19, "CENTRE of a ROW: the higher 32 bits of the double (0), the lower ones (1).");
        Boundary.says(Document.TREES, "CENTRE: places of all ones, added as doubles, by how many ones there are, as a double");
        centreIs(one("01"), 0, 1.0);
        centreIs(one("11"), 0, 0.5);
        centreIs(one("1101"), 0, 4.0 / 3.0);
        centreIs(one("0".repeat(30) + "1110001"), 0, (30.0 + 31 + 32 + 36) / 4);
        centreIs(one("0110101"), 0, 13.0 / 4);
        centreIs(one("011010100011"), 0, (1.0 + 2 + 4 + 6 + 10 + 11) / 6);
        centreIs(one("01101010001101"), 0, (1.0 + 2 + 4 + 6 + 10 + 11 + 13) / 7);
        BitRopes full = three();
        centreIs(full, 2, 300.0);
        full.turn(2, 0, 600);
        centreIs(full, 2, 299.0);
        full.set(2, 599, 1);
        centreIs(full, 2, (89700.0 + 599) / 301);
        Boundary.says(Document.TREES, "(0, if one is at place 0 alone: no bit is 1).");
        centreIs(one("1"), 0, 0.0);
        centreIs(one("1000000000"), 0, 0.0);
        Boundary.says(19, "NoSuchElementException: it has no ones, no such ones.");
        BitRopes x = three();
        Boundary.throwsIt("centre(1, 0) of no bits", () -> x.centre(1, 0));
        x.cut(0, 4, 1);
        x.cut(0, 0, 2);
        Boundary.throwsIt("centre(0, 0) of noughts", () -> x.centre(0, 0));
        Boundary.throwsIt("centre(0, 1) of noughts", () -> x.centre(0, 1));
        for (int half : new int[] {-1, 2, MIN, MAX}) {
            Boundary.throwsIt("centre(2, " + half + ")", () -> x.centre(2, half));
        }
        for (int r : NO_ROWS) {
            Boundary.throwsIt("centre(" + r + ", 0)", () -> x.centre(r, 0));
        }
    }

    private static void apart() {
        BitRopes x = Check.with("row a iio;row b;row c ooiii;row d " + Check.manyBits(600) + ";");
        Boundary.says(20, "APART of two ROWS");
        Boundary.says(Document.TREES, "APART of two ROWS: at how many places they have unlike bits, and as many as the one has more.");
        Boundary.due("a, c", x.apart(0, 2), 5);
        Boundary.due("c, a", x.apart(2, 0), 5);
        Boundary.due("a, b", x.apart(0, 1), 3);
        Boundary.due("b, a", x.apart(1, 0), 3);
        Boundary.due("b, b", x.apart(1, 1), 0);
        Boundary.due("a, a", x.apart(0, 0), 0);
        Boundary.due("b, d", x.apart(1, 3), 600);
        Boundary.due("a, d, unlike at place 0", x.apart(0, 3), 598);
        x.turn(0, 0, 1);
        Boundary.due("a, d", x.apart(0, 3), 597);
        Boundary.says(20, "NONE: no such ones.");
        for (int r : new int[] {-1, 4, MIN, MAX}) {
            Boundary.due("apart(0, " + r + ")", x.apart(0, r), -1);
            Boundary.due("apart(" + r + ", 0)", x.apart(r, 0), -1);
            Boundary.due("apart(" + r + ", " + r + ")", x.apart(r, r), -1);
        }
    }

    private static void differ() {
        BitRopes x = Check.with("row a iio;row b;row c iioo;row d iiooi;");
        Boundary.says(21, "The first place at which two ROWS differ (that which the one has more, too)");
        Boundary.due("a, c", x.differ(0, 2), 3);
        Boundary.due("c, a", x.differ(2, 0), 3);
        Boundary.due("a, b", x.differ(0, 1), 0);
        Boundary.due("b, a", x.differ(1, 0), 0);
        Boundary.due("c, d", x.differ(2, 3), 4);
        x.turn(3, 0, 1);
        Boundary.due("at place 0", x.differ(2, 3), 0);
        x.turn(3, 0, 1);
        x.turn(3, 3, 1);
        Boundary.due("at the last of both", x.differ(2, 3), 3);
        Boundary.says(21, "they are alike, no such ones.");
        x.cut(2, 3, 1);
        Boundary.due("a, c alike", x.differ(0, 2), -1);
        Boundary.due("a, a", x.differ(0, 0), -1);
        Boundary.due("b, b", x.differ(1, 1), -1);
        for (int r : new int[] {-1, 4, MIN, MAX}) {
            Boundary.due("differ(0, " + r + ")", x.differ(0, r), -1);
            Boundary.due("differ(" + r + ", 0)", x.differ(r, 0), -1);
        }
    }

    private static int seek(BitRopes x, int r, String bits) {
        Check.bits(x, bits);
        int many = x.seek(r);
        Boundary.due("tape behind seek of " + bits, x.total(3), 0);
        return many;
    }

    private static void seek() {
        BitRopes x = three();
        Boundary.says(22, "SEEK: how often");
        Boundary.says(Document.TREES, "SEEK: where the bits on the tape (bytes 0, 1: 1 to 32 of them) come in a ROW, over one another, too.");
        Boundary.due("1 bit", seek(x, 0, "1"), 3);
        Boundary.due("1 bit at the end", x.seekAt(2), 4);
        Boundary.due("the whole ROW", seek(x, 0, "11001"), 1);
        Boundary.due("the whole ROW", x.seekAt(0), 0);
        Boundary.due("one more", seek(x, 0, "110011"), 0);
        Boundary.due("none there", seek(x, 0, "000"), 0);
        Boundary.due("unlike at the first", seek(x, 0, "01001"), 0);
        Boundary.due("unlike at the last", seek(x, 0, "11000"), 0);
        Boundary.due("no bits", seek(x, 1, "0"), 0);
        Boundary.due("over one another", seek(one("11111"), 0, "111"), 3);
        Boundary.due("32 bits", seek(x, 2, "01".repeat(16)), 285);
        Boundary.due("600", seek(one("1".repeat(400)), 0, "1"), 400);
        BitRopes full = Check.with("row a " + "iiiiiii ".repeat(85) + "iiiii;");
        Boundary.due("600", seek(full, 0, "1"), 600);
        Boundary.due("the 600th", full.seekAt(599), 599);
        Boundary.due("no 601st", full.seekAt(600), -1);
        Boundary.says(22, "not as told (a byte above 1, too), no such ROW (the tape is empty then, too).");
        Boundary.due("an empty tape", seek(x, 0, ""), -1);
        Boundary.due("33 bits", seek(x, 2, "01".repeat(16) + "0"), -1);
        Boundary.due("a 2", seek(x, 0, "2"), -1);
        Boundary.due("a 2 ahead", seek(x, 0, "21"), -1);
        Boundary.due("a 2 behind", seek(x, 0, "112"), -1);
        Check.feed(x, new int[] {1, 255});
        Boundary.due("a 255", x.seek(0), -1);
        Boundary.due("tape", x.total(3), 0);
        for (int r : NO_ROWS) {
            Boundary.due("seek(" + r + ")", seek(x, r, "1"), -1);
        }
        x.feed(0, 0, 0, 0, 0);
        x.feed(0, 0, 0, 0, 0);
        Boundary.due("40 bits", x.seek(0), -1);
    }

    private static void seekAt() {
        BitRopes x = new BitRopes();
        Boundary.says(23, "none such, or ahead of any.");
        for (int k : new int[] {-1, 0, 1, MIN, MAX}) {
            Boundary.due("ahead of any: seekAt(" + k + ")", x.seekAt(k), -1);
        }
        Check.room(x, "row a ioiio;row b;");
        Boundary.due("ahead of any", x.seekAt(0), -1);
        Check.bits(x, "3");
        Boundary.due("NONE alone", x.seek(0), -1);
        Boundary.due("ahead of any but NONE", x.seekAt(0), -1);
        Check.bits(x, "1");
        Boundary.due("seek(0)", x.seek(0), 3);
        for (int k : new int[] {-1, 3, 4, MIN, MAX}) {
            Boundary.due("seekAt(" + k + ")", x.seekAt(k), -1);
        }
        Boundary.says(23, "Where the k-th (from 0) begins, by the latest seek() that was not NONE");
        Boundary.due("seekAt(0)", x.seekAt(0), 0);
        Boundary.due("seekAt(1)", x.seekAt(1), 2);
        Boundary.due("seekAt(2)", x.seekAt(2), 3);
        Check.bits(x, "12");
        x.seek(0);
        Check.bits(x, "1");
        x.seek(2);
        x.seek(0);
        Boundary.due("seekAt(2) behind NONE", x.seekAt(2), 3);
        x.cut(0, 0, 5);
        Boundary.due("seekAt(2) behind cut()", x.seekAt(2), 3);
        Check.bits(x, "1");
        Boundary.due("seek(1)", x.seek(1), 0);
        Boundary.due("seekAt(0) behind 0", x.seekAt(0), -1);
    }

    private static void throwing() {
        Boundary.says(Document.TREES, "A call that throws changes nothing.");
        BitRopes x = Boundary.named();
        Check.bits(x, "1");
        x.seek(0);
        Check.book(x, "put a 9 1;", 0);
        Check.sentence(x, "size=2");
        Check.sentence(x, "size");
        x.put(0, 0, 0);
        x.image(1);
        Check.bits(x, "101");
        Boundary.throwsIt("word", () -> x.word(0, 9));
        Boundary.throwsIt("dense", () -> x.dense(0, 0, 0));
        Boundary.throwsIt("load", () -> x.load(1));
        Boundary.throwsIt("centre", () -> x.centre(1, 0));
        Boundary.due("tape", x.total(3), 3);
        Boundary.due("seekAt(1)", x.seekAt(1), 1);
        Boundary.due("told(0)", x.told(0), 1);
        Boundary.due("fault()", x.fault(), 1);
        Boundary.due("said(0)", x.said(0), 2);
        Boundary.same("ROWS and LETTERS", Check.row(x, 0) + Check.row(x, 1) + Check.row(x, 2) + Check.script(x), "011001abc");
        Boundary.due("undo()", x.undo(), 0);
        Boundary.due("restore(1)", x.restore(1), true);
    }
}
