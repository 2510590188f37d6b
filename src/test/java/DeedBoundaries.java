/** Boundaries of deeds on ROWS: how LEAVES split and merge, promises 24 to 30. */
final class DeedBoundaries {
    private static final int MIN = Integer.MIN_VALUE;
    private static final int MAX = Integer.MAX_VALUE;
    // Of a ROOM with four ROWS.
    private static final int[] NO_ROWS = {-1, 4, 5, MIN, MAX};

    private DeedBoundaries() {
    }

    static void check() {
        asTold();
        puttingLeaf();
        puttingHalves();
        takingOut();
        takingLast();
        takingAll();
        put();
        set();
        cut();
        turn();
        pastePlaces();
        pasteTapes();
        join();
        split();
    }

    /** Rows a (LEAVES of 5, 5 and 6 bits), b (no bits), c (600 bits), d (oo). */
    private static BitRopes four() {
        return Check.with("leaf 4;row a iiiiooo oiiiioo oo;row b;row c " + Check.manyBits(600) + ";row d oo;");
    }

    private static BitRopes withBits(int low, int n) {
        return Check.with("leaf " + low + ";row a " + Check.manyBits(n) + ";row b;");
    }

    private static void leavesAre(BitRopes x, String due) {
        Boundary.same("leaves", Check.leaves(x, 0), due);
    }

    private static void asTold() {
        Boundary.says(Document.LEAVES, "A ROW as told: its bits are PUT at its end, one by one.");
        for (int n = 0; n <= 40; n++) {
            BitRopes x = withBits(4, n);
            for (int i = 0; i < n; i++) {
                Boundary.due("put", x.put(1, i, x.bit(0, i)), 0);
            }
            Boundary.same("leaves of " + n, Check.leaves(x, 0), Check.leaves(x, 1));
            Boundary.same("bits of " + n, Check.row(x, 0), Check.row(x, 1));
        }
        leavesAre(withBits(4, 8), "8");
        leavesAre(withBits(4, 9), "5 4");
        leavesAre(withBits(4, 13), "5 8");
        leavesAre(withBits(4, 14), "5 5 4");
    }

    private static void puttingLeaf() {
        Boundary.says(Document.LEAVES, "it is in the LEAF that has place i less 1 (i 0: in the first one; "
            + "a ROW without bits has no LEAF: it is a new one)");
        BitRopes x = withBits(4, 9);
        x.put(0, 0, 1);
        leavesAre(x, "6 4");
        x.put(0, 6, 1);
        leavesAre(x, "7 4");
        x.put(0, 8, 1);
        leavesAre(x, "7 5");
        x.put(0, 12, 1);
        leavesAre(x, "7 6");
        x.put(0, 7, 1);
        leavesAre(x, "8 6");
        x = withBits(4, 14);
        x.put(0, 5, 0);
        leavesAre(x, "6 5 4");
        x.put(0, 7, 0);
        leavesAre(x, "6 6 4");
        x.put(0, 12, 0);
        leavesAre(x, "6 7 4");
        x.put(0, 14, 0);
        leavesAre(x, "6 7 5");
        x.put(0, 1, 0);
        leavesAre(x, "7 7 5");
        Boundary.due("a ROW without bits", x.leaves(1), 0);
        x.put(1, 0, 1);
        Boundary.same("a new LEAF", Check.leaves(x, 1), "1");
        x.put(1, 0, 1);
        Boundary.same("the first one", Check.leaves(x, 1), "2");
        x.cut(1, 0, 2);
        Boundary.due("cut whole", x.leaves(1), 0);
        x.put(1, 0, 1);
        Boundary.same("a new LEAF again", Check.leaves(x, 1), "1");
    }

    private static void puttingHalves() {
        Boundary.says(Document.LEAVES, "if that has more than 2 by LOW bits then, it is two: the first half of it "
            + "(one more, if they are odd) and the rest.");
        Boundary.says(Document.LEAVES, "To PUT a bit at place i (0 to the size):");
        for (int low : new int[] {4, 5, 8, 31, 32}) {
            for (int i : new int[] {0, 1, low, 2 * low - 1, 2 * low}) {
                BitRopes x = withBits(low, 2 * low - 1);
                x.put(0, Math.min(i, 2 * low - 1), 1);
                leavesAre(x, "" + 2 * low);
                x.put(0, i, 1);
                leavesAre(x, low + 1 + " " + low);
            }
        }
        BitRopes x = Check.with("leaf 4;row a iiiiooo oiiii;");
        leavesAre(x, "5 7");
        x.put(0, 12, 0);
        x.put(0, 6, 0);
        // The middle one of three is two, and what is behind it stays behind.
        leavesAre(x, "5 5 4");
        for (int k = 0; k < 4; k++) {
            x.put(0, 6, 1);
        }
        leavesAre(x, "5 5 4 4");
        Boundary.same("bits", Check.row(x, 0), "111100111100011110");
    }

    private static void takingOut() {
        Boundary.says(Document.LEAVES, "To take a bit out: its LEAF has it no more; if that has fewer than LOW bits then, and there are others, "
            + "it and the next one");
        BitRopes x = withBits(4, 19);
        leavesAre(x, "5 5 5 4");
        x.cut(0, 0, 1);
        leavesAre(x, "4 5 5 4");
        x.cut(0, 3, 1);
        // 3 and 5: no more than 2 by LOW.
        leavesAre(x, "8 5 4");
        x.cut(0, 8, 1);
        leavesAre(x, "8 4 4");
        x.cut(0, 11, 1);
        leavesAre(x, "8 7");
        Boundary.says(Document.LEAVES, "are one, and two again, as ahead, if that is more than 2 by LOW");
        x = withBits(4, 17);
        leavesAre(x, "5 5 7");
        x.cut(0, 5, 1);
        x.cut(0, 5, 1);
        // 3 and 7.
        leavesAre(x, "5 5 5");
        x = withBits(4, 18);
        x.cut(0, 9, 1);
        x.cut(0, 8, 1);
        // 3 and 8: the first half has one more.
        leavesAre(x, "5 6 5");
        x = withBits(4, 16);
        x.cut(0, 5, 1);
        x.cut(0, 5, 1);
        // 3 and 6: one more than 2 by LOW.
        leavesAre(x, "5 5 4");
        x = withBits(4, 15);
        x.cut(0, 5, 1);
        x.cut(0, 5, 1);
        leavesAre(x, "5 8");
        x = withBits(32, 66);
        leavesAre(x, "33 33");
        x.cut(0, 0, 1);
        leavesAre(x, "32 33");
        x.cut(0, 0, 1);
        leavesAre(x, "64");
    }

    private static void takingLast() {
        Boundary.says(Document.LEAVES, "(the last one: the one ahead and it)");
        BitRopes x = withBits(4, 14);
        leavesAre(x, "5 5 4");
        x.cut(0, 13, 1);
        // 5 and 3.
        leavesAre(x, "5 8");
        x = withBits(4, 14);
        x.put(0, 6, 1);
        leavesAre(x, "5 6 4");
        x.cut(0, 11, 1);
        // 6 and 3.
        leavesAre(x, "5 5 4");
        x = withBits(4, 14);
        x.put(0, 6, 1);
        x.put(0, 6, 1);
        x.cut(0, 12, 1);
        // 7 and 3.
        leavesAre(x, "5 5 5");
        x = withBits(4, 14);
        x.put(0, 6, 1);
        x.put(0, 6, 1);
        x.put(0, 6, 1);
        x.cut(0, 16, 1);
        // 8 and 3.
        leavesAre(x, "5 6 5");
        x = withBits(4, 9);
        x.cut(0, 8, 1);
        leavesAre(x, "8");
    }

    private static void takingAll() {
        Boundary.says(Document.LEAVES, "a LEAF without bits is none.");
        BitRopes x = withBits(4, 9);
        x.cut(0, 0, 2);
        leavesAre(x, "7");
        for (int n = 6; n > 0; n--) {
            x.cut(0, 0, 1);
            // No others: it stays, as few as it has.
            leavesAre(x, "" + n);
        }
        x.cut(0, 0, 1);
        leavesAre(x, "");
        Boundary.due("leaves(0)", x.leaves(0), 0);
        Boundary.due("tree(0, 3)", x.tree(0, 3), 0);
        x = withBits(4, 300);
        x.cut(0, 0, 300);
        Boundary.due("300 at once", x.leaves(0), 0);
    }

    private static void put() {
        BitRopes x = four();
        Boundary.says(24, "A bit is PUT: 0, or why not");
        Boundary.says(Document.LEAVES, "To PUT: why not, the least: 1 there is no place i; 2 there are 600 bits.");
        Boundary.due("at 0", x.put(0, 0, 0), 0);
        Boundary.due("at 0", x.bit(0, 0), 0);
        Boundary.due("at the size", x.put(0, 17, 1), 0);
        Boundary.due("at the size", x.bit(0, 17), 1);
        Boundary.due("at 0 of no bits", x.put(1, 0, 1), 0);
        for (int i : new int[] {-1, 19, 20, MIN, MAX}) {
            Boundary.due("put(0, " + i + ", 1)", x.put(0, i, 1), 1);
        }
        Boundary.due("at 1 of no bits", withBits(4, 3).put(1, 1, 1), 1);
        Boundary.due("600 bits, at 0", x.put(2, 0, 1), 2);
        Boundary.due("600 bits, at the end", x.put(2, 600, 1), 2);
        Boundary.due("600 bits, no place", x.put(2, 601, 1), 1);
        Boundary.due("600 bits, no place", x.put(2, -1, 1), 1);
        x.cut(2, 300, 1);
        Boundary.due("599 bits", x.put(2, 599, 1), 0);
        Boundary.due("599 bits", x.size(2), 600);
        Boundary.says(24, "no such ROW, bit.");
        for (int b : new int[] {-1, 2, MIN, MAX}) {
            Boundary.due("put(0, 0, " + b + ")", x.put(0, 0, b), -1);
            Boundary.due("put(0, 99, " + b + ")", x.put(0, 99, b), -1);
            Boundary.due("put(2, 0, " + b + ")", x.put(2, 0, b), -1);
        }
        for (int r : NO_ROWS) {
            Boundary.due("put(" + r + ", 0, 1)", x.put(r, 0, 1), -1);
            Boundary.due("put(" + r + ", -1, 1)", x.put(r, -1, 1), -1);
        }
        Boundary.same("bits", Check.row(x, 0), "011110000111100001");
    }

    private static void set() {
        BitRopes x = four();
        Boundary.says(25, "A bit is SET: 0, or why not");
        Boundary.says(Document.LEAVES, "To SET: 1 no bit is there; 2 it is that.");
        Boundary.due("the first", x.set(0, 0, 0), 0);
        Boundary.due("the last", x.set(0, 15, 1), 0);
        Boundary.same("bits", Check.row(x, 0), "0111000011110001");
        leavesAre(x, "5 5 6");
        Boundary.due("the first again", x.set(0, 0, 0), 2);
        Boundary.due("the last again", x.set(0, 15, 1), 2);
        for (int i : new int[] {-1, 16, 17, MIN, MAX}) {
            Boundary.due("set(0, " + i + ", 0)", x.set(0, i, 0), 1);
            Boundary.due("set(0, " + i + ", 1)", x.set(0, i, 1), 1);
        }
        Boundary.due("of no bits", x.set(1, 0, 1), 1);
        Boundary.due("of 600", x.set(2, 599, 0), 0);
        Boundary.due("of 600", x.set(2, 600, 0), 1);
        Boundary.says(25, "no such ROW, bit.");
        for (int b : new int[] {-1, 2, MIN, MAX}) {
            Boundary.due("set(0, 0, " + b + ")", x.set(0, 0, b), -1);
            Boundary.due("set(0, 99, " + b + ")", x.set(0, 99, b), -1);
        }
        for (int r : NO_ROWS) {
            Boundary.due("set(" + r + ", 0, 1)", x.set(r, 0, 1), -1);
        }
        Boundary.same("bits", Check.row(x, 0), "0111000011110001");
    }

    private static void cut() {
        Boundary.says(26, "n bits (1 to 600) are CUT: 0, or why not");
        Boundary.says(Document.LEAVES, "To CUT n bits from i on, one by one at place i: 1 some are not there.");
        BitRopes x = four();
        Boundary.due("some are not there", x.cut(0, 0, 17), 1);
        Boundary.due("some are not there", x.cut(0, 15, 2), 1);
        Boundary.due("some are not there", x.cut(0, 16, 1), 1);
        Boundary.due("some are not there", x.cut(0, 0, 600), 1);
        Boundary.due("some are not there", x.cut(1, 0, 1), 1);
        for (int i : new int[] {-1, 17, MIN, MAX}) {
            Boundary.due("cut(0, " + i + ", 1)", x.cut(0, i, 1), 1);
            Boundary.due("cut(0, " + i + ", 600)", x.cut(0, i, 600), 1);
        }
        Boundary.same("bits", Check.row(x, 0), "1111000011110000");
        Boundary.due("the last", x.cut(0, 15, 1), 0);
        Boundary.due("the first", x.cut(0, 0, 1), 0);
        Boundary.same("bits", Check.row(x, 0), "11100001111000");
        Boundary.due("all", x.cut(0, 0, 14), 0);
        Boundary.due("none", x.size(0), 0);
        Boundary.due("600", x.cut(2, 0, 600), 0);
        Boundary.due("600", x.size(2), 0);
        for (int from = 0; from <= 8; from += 2) {
            for (int n = 1; n <= 30 - from; n++) {
                BitRopes one = withBits(4, 30);
                BitRopes other = withBits(4, 30);
                one.cut(0, from, n);
                for (int k = 0; k < n; k++) {
                    other.cut(0, from, 1);
                }
                Boundary.same("one by one, leaves", Check.leaves(one, 0), Check.leaves(other, 0));
                Boundary.same("one by one, bits", Check.row(one, 0), Check.row(other, 0));
            }
        }
        Boundary.says(26, "NONE: no such ones.");
        x = four();
        for (int n : new int[] {0, -1, 601, MIN, MAX}) {
            Boundary.due("cut(0, 0, " + n + ")", x.cut(0, 0, n), -1);
            Boundary.due("cut(2, 0, " + n + ")", x.cut(2, 0, n), -1);
            Boundary.due("cut(0, 99, " + n + ")", x.cut(0, 99, n), -1);
        }
        for (int r : NO_ROWS) {
            Boundary.due("cut(" + r + ", 0, 1)", x.cut(r, 0, 1), -1);
        }
    }

    private static void turn() {
        Boundary.says(27, "n bits (1 to 600) are TURNED: 0, or why not");
        Boundary.says(Document.LEAVES, "To TURN n bits from i on (ones are noughts, noughts ones): 1 some are not there.");
        BitRopes x = four();
        Boundary.due("some are not there", x.turn(0, 0, 17), 1);
        Boundary.due("some are not there", x.turn(0, 15, 2), 1);
        Boundary.due("some are not there", x.turn(0, 16, 1), 1);
        Boundary.due("some are not there", x.turn(0, 0, 600), 1);
        Boundary.due("some are not there", x.turn(1, 0, 1), 1);
        for (int i : new int[] {-1, 17, MIN, MAX}) {
            Boundary.due("turn(0, " + i + ", 1)", x.turn(0, i, 1), 1);
            Boundary.due("turn(0, " + i + ", 600)", x.turn(0, i, 600), 1);
        }
        Boundary.same("bits", Check.row(x, 0), "1111000011110000");
        Boundary.due("the last", x.turn(0, 15, 1), 0);
        Boundary.due("the first", x.turn(0, 0, 1), 0);
        Boundary.same("bits", Check.row(x, 0), "0111000011110001");
        Boundary.due("all", x.turn(0, 0, 16), 0);
        Boundary.same("bits", Check.row(x, 0), "1000111100001110");
        leavesAre(x, "5 5 6");
        Boundary.due("600", x.turn(2, 0, 600), 0);
        Boundary.due("600", 2 * x.bit(2, 0) + x.bit(2, 599), 2);
        Boundary.says(27, "NONE: no such ones.");
        for (int n : new int[] {0, -1, 601, MIN, MAX}) {
            Boundary.due("turn(0, 0, " + n + ")", x.turn(0, 0, n), -1);
            Boundary.due("turn(2, 0, " + n + ")", x.turn(2, 0, n), -1);
            Boundary.due("turn(0, 99, " + n + ")", x.turn(0, 99, n), -1);
        }
        for (int r : NO_ROWS) {
            Boundary.due("turn(" + r + ", 0, 1)", x.turn(r, 0, 1), -1);
        }
        Boundary.same("bits", Check.row(x, 0), "1000111100001110");
    }

    private static int paste(BitRopes x, int r, int i, String bits) {
        Check.bits(x, bits);
        int answer = x.paste(r, i);
        Boundary.due("tape behind paste of " + bits, x.total(3), 0);
        return answer;
    }

    private static void pastePlaces() {
        Boundary.says(28, "The bits on the tape (bytes 0, 1: 1 to 64 of them) are PUT, one by one, from place i on: 0");
        BitRopes x = four();
        Boundary.due("at 0", paste(x, 3, 0, "11"), 0);
        Boundary.due("at the size", paste(x, 3, 4, "101"), 0);
        Boundary.due("in the middle", paste(x, 3, 2, "1"), 0);
        Boundary.same("bits", Check.row(x, 3), "11100101");
        Boundary.due("to no bits", paste(x, 1, 0, "01"), 0);
        Boundary.same("to no bits", Check.row(x, 1), "01");
        Boundary.due("64", paste(x, 1, 1, "01".repeat(32)), 0);
        Boundary.same("64", Check.row(x, 1), "0" + "01".repeat(32) + "1");
        for (int i = 0; i <= 16; i++) {
            BitRopes one = four();
            BitRopes other = four();
            paste(one, 0, i, "0110100110010110");
            for (int k = 0; k < 16; k++) {
                other.put(0, i + k, "0110100110010110".charAt(k) - '0');
            }
            Boundary.same("leaves, one by one from " + i, Check.leaves(one, 0), Check.leaves(other, 0));
            Boundary.same("bits, one by one from " + i, Check.row(one, 0), Check.row(other, 0));
        }
        Boundary.says(28, "why not as for PUTTING (2: they were more than 600)");
        for (int i : new int[] {-1, 17, MIN, MAX}) {
            Boundary.due("paste(0, " + i + ")", paste(x, 0, i, "1"), 1);
        }
        Boundary.due("full", paste(x, 2, 0, "1"), 2);
        Boundary.due("full, no place", paste(x, 2, 601, "1"), 1);
        Boundary.due("full, no place", paste(x, 2, -1, "1"), 1);
        x.cut(2, 0, 3);
        Boundary.due("601", paste(x, 2, 0, "1111"), 2);
        Boundary.due("601", x.size(2), 597);
        Boundary.due("600", paste(x, 2, 597, "111"), 0);
        Boundary.due("600", x.size(2), 600);
        x.cut(2, 0, 64);
        Boundary.due("64 to 600", paste(x, 2, 0, "1".repeat(64)), 0);
        Boundary.due("64 to 600", x.size(2), 600);
    }

    private static void pasteTapes() {
        Boundary.says(28, "not as told, no such ROW (the tape is empty then, too).");
        BitRopes x = four();
        Boundary.due("an empty tape", paste(x, 0, 0, ""), -1);
        Boundary.due("65", paste(x, 0, 0, "1".repeat(65)), -1);
        Boundary.due("66", paste(x, 0, 0, "1".repeat(66)), -1);
        Boundary.due("a 2", paste(x, 0, 0, "2"), -1);
        Boundary.due("a 2 ahead", paste(x, 0, 0, "20"), -1);
        Boundary.due("a 2 behind", paste(x, 0, 0, "0102"), -1);
        Boundary.due("a 2, no place", paste(x, 0, 99, "2"), -1);
        Boundary.due("none, full", paste(x, 2, 0, ""), -1);
        Check.feed(x, new int[] {0, 255, 1});
        Boundary.due("a 255", x.paste(0, 0), -1);
        Boundary.due("tape behind a 255", x.total(3), 0);
        for (int r : NO_ROWS) {
            Boundary.due("paste(" + r + ", 0)", paste(x, r, 0, "1"), -1);
            Boundary.due("paste(" + r + ", -1)", paste(x, r, -1, "1"), -1);
        }
        Boundary.same("bits", Check.row(x, 0), "1111000011110000");
        Boundary.due("undo()", x.undo(), -1);
    }

    private static void join() {
        Boundary.says(29, "r and s are JOINED: 0, or why not");
        Boundary.says(Document.LEAVES, "To JOIN a ROW and another one: 1 that has no bits; 2 they were more than 600 together: "
            + "its bits are PUT, one by one, at the end of the first; it has none then.");
        BitRopes x = four();
        Boundary.due("that has no bits", x.join(0, 1), 1);
        Boundary.due("that has no bits, the first is full", x.join(2, 1), 1);
        Boundary.due("602 together", x.join(2, 3), 2);
        Boundary.due("602 together", x.join(3, 2), 2);
        Boundary.due("bits of all", x.total(2), 618);
        x.cut(2, 0, 1);
        Boundary.due("601 together", x.join(2, 3), 2);
        x.cut(2, 0, 1);
        Boundary.due("600 together", x.join(2, 3), 0);
        Boundary.due("600 together", x.size(2), 600);
        Boundary.due("it has none", x.size(3), 0);
        Boundary.due("it has no LEAVES", x.leaves(3), 0);
        Boundary.due("to one without bits", x.join(1, 0), 0);
        Boundary.same("to one without bits", Check.row(x, 1) + "/" + Check.leaves(x, 1), "1111000011110000/5 5 6");
        Boundary.due("it has none", x.size(0) + x.leaves(0), 0);
        Boundary.due("none and none", x.join(0, 3), 1);
        Boundary.due("600 to one without bits", x.join(3, 2), 0);
        Boundary.due("600 to one without bits", x.size(3), 600);
        x = four();
        x.join(0, 3);
        Boundary.same("one by one", Check.row(x, 0) + "/" + Check.leaves(x, 0), "111100001111000000/5 5 8");
        x = four();
        x.join(3, 0);
        Boundary.same("one by one", Check.row(x, 3) + "/" + Check.leaves(x, 3), "001111000011110000/5 5 8");
        Boundary.says(29, "both are one ROW, no such ones.");
        for (int r = 0; r < 4; r++) {
            Boundary.due("join(" + r + ", " + r + ")", x.join(r, r), -1);
        }
        for (int r : NO_ROWS) {
            Boundary.due("join(0, " + r + ")", x.join(0, r), -1);
            Boundary.due("join(" + r + ", 0)", x.join(r, 0), -1);
            Boundary.due("join(" + r + ", " + r + ")", x.join(r, r), -1);
        }
    }

    private static void split() {
        Boundary.says(30, "r is SPLIT from i on to s: 0, or why not");
        Boundary.says(Document.LEAVES, "To SPLIT from i on to another ROW: 1 there is no bit at i; 2 that would have more than 600: "
            + "bits from i on are PUT there, one by one, at the end, and CUT here.");
        BitRopes x = four();
        for (int i : new int[] {-1, 16, 17, MIN, MAX}) {
            Boundary.due("split(0, " + i + ", 1)", x.split(0, i, 1), 1);
            Boundary.due("split(0, " + i + ", 2), full", x.split(0, i, 2), 1);
        }
        Boundary.due("of no bits", x.split(1, 0, 0), 1);
        Boundary.due("601", x.split(0, 15, 2), 2);
        Boundary.due("602", x.split(2, 0, 3), 2);
        Boundary.due("601", x.split(2, 1, 3), 2);
        Boundary.due("bits of all", x.total(2), 618);
        Boundary.due("600", x.split(2, 2, 3), 0);
        Boundary.due("600", x.size(3), 600);
        Boundary.due("the rest", x.size(2), 2);
        Boundary.due("the last bit", x.split(0, 15, 1), 0);
        Boundary.same("the last bit", Check.row(x, 1) + "/" + Check.leaves(x, 1), "0/1");
        Boundary.same("here", Check.row(x, 0) + "/" + Check.leaves(x, 0), "111100001111000/5 5 5");
        Boundary.due("all", x.split(0, 0, 1), 0);
        Boundary.same("all", Check.row(x, 1) + "/" + Check.leaves(x, 1), "0111100001111000/5 5 6");
        Boundary.due("none here", x.size(0) + x.leaves(0), 0);
        Boundary.due("600 to one without bits", x.split(3, 0, 0), 0);
        Boundary.due("600 to one without bits", x.size(0), 600);
        for (int i = 0; i < 30; i++) {
            BitRopes one = withBits(4, 30);
            BitRopes other = withBits(4, 30);
            one.split(0, i, 1);
            for (int k = i; k < 30; k++) {
                other.put(1, k - i, other.bit(0, i));
                other.cut(0, i, 1);
            }
            Boundary.same("leaves, one by one from " + i, Check.leaves(one, 0) + "/" + Check.leaves(one, 1),
                Check.leaves(other, 0) + "/" + Check.leaves(other, 1));
            Boundary.same("bits from " + i, Check.row(one, 0) + "/" + Check.row(one, 1), Check.row(other, 0) + "/" + Check.row(other, 1));
        }
        Boundary.says(30, "both are one ROW, no such ones.");
        x = four();
        for (int r = 0; r < 4; r++) {
            Boundary.due("split(" + r + ", 0, " + r + ")", x.split(r, 0, r), -1);
        }
        for (int r : NO_ROWS) {
            Boundary.due("split(0, 0, " + r + ")", x.split(0, 0, r), -1);
            Boundary.due("split(" + r + ", 0, 0)", x.split(r, 0, 0), -1);
            Boundary.due("split(0, -1, " + r + ")", x.split(0, -1, r), -1);
        }
    }
}
