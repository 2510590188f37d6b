/** Boundaries of the LETTERS: promises 31 to 38. */
final class LetterBoundaries {
    private static final int MIN = Integer.MIN_VALUE;
    private static final int MAX = Integer.MAX_VALUE;
    private static final int[] NO_LETTERS = {-1, 8, 9, MIN, MAX};

    private LetterBoundaries() {
    }

    static void check() {
        letters();
        counts();
        places();
        least();
        nodes();
        nodesOfOneLetter();
        type();
        erase();
    }

    /** badge hab */
    private static BitRopes eight() {
        return Check.with("letters badge hab;");
    }

    private static BitRopes full() {
        return Check.with("letters " + "abcdefg ".repeat(28) + "abch;");
    }

    private static void letters() {
        Boundary.says(31, "How many LETTERS there are.");
        Boundary.due("a new one", new BitRopes().letters(), 0);
        Boundary.due("8", eight().letters(), 8);
        Boundary.due("200", full().letters(), 200);
        Boundary.says(32, "The LETTER at place i");
        Boundary.says(Document.LEAVES, "LETTERS are 0 (a) to 7 (h), at places from 0 on.");
        BitRopes x = eight();
        Boundary.due("b", x.letter(0), 1);
        Boundary.due("a", x.letter(1), 0);
        Boundary.due("h", x.letter(5), 7);
        Boundary.due("the last", x.letter(7), 1);
        Boundary.due("the last of 200", full().letter(199), 7);
        Boundary.says(32, "NONE: none.");
        for (int i : new int[] {-1, 8, 9, MIN, MAX}) {
            Boundary.due("letter(" + i + ")", x.letter(i), -1);
        }
        Boundary.due("letter(0) of none", new BitRopes().letter(0), -1);
        Boundary.due("letter(200)", full().letter(200), -1);
    }

    private static void counts() {
        BitRopes x = eight();
        Boundary.says(33, "How many LETTERS c are ahead of place i (0 to how many there are)");
        Boundary.due("count(1, 0)", x.count(1, 0), 0);
        Boundary.due("count(1, 1)", x.count(1, 1), 1);
        Boundary.due("count(1, 7)", x.count(1, 7), 1);
        Boundary.due("count(1, 8)", x.count(1, 8), 2);
        Boundary.due("count(0, 8)", x.count(0, 8), 2);
        Boundary.due("count(7, 8)", x.count(7, 8), 1);
        Boundary.due("count(5, 8)", x.count(5, 8), 0);
        Boundary.due("count(0, 0) of none", new BitRopes().count(0, 0), 0);
        Boundary.due("count(7, 200)", full().count(7, 200), 1);
        Boundary.due("count(7, 199)", full().count(7, 199), 0);
        Boundary.says(33, "NONE: no such ones.");
        for (int i : new int[] {-1, 9, 10, MIN, MAX}) {
            Boundary.due("count(0, " + i + ")", x.count(0, i), -1);
        }
        for (int c : NO_LETTERS) {
            Boundary.due("count(" + c + ", 0)", x.count(c, 0), -1);
            Boundary.due("count(" + c + ", 8)", x.count(c, 8), -1);
        }
        Boundary.due("count(0, 1) of none", new BitRopes().count(0, 1), -1);
        Boundary.due("count(0, 201)", full().count(0, 201), -1);
    }

    private static void places() {
        BitRopes x = eight();
        Boundary.says(34, "Where the k-th (from 0) LETTER c is");
        Boundary.due("place(1, 0)", x.place(1, 0), 0);
        Boundary.due("place(1, 1)", x.place(1, 1), 7);
        Boundary.due("place(0, 1)", x.place(0, 1), 6);
        Boundary.due("place(7, 0)", x.place(7, 0), 5);
        Boundary.due("place(7, 0) of 200", full().place(7, 0), 199);
        Boundary.says(34, "none such, no such one.");
        for (int k : new int[] {-1, 2, 3, MIN, MAX}) {
            Boundary.due("place(1, " + k + ")", x.place(1, k), -1);
        }
        Boundary.due("place(5, 0)", x.place(5, 0), -1);
        Boundary.due("place(0, 0) of none", new BitRopes().place(0, 0), -1);
        for (int c : NO_LETTERS) {
            Boundary.due("place(" + c + ", 0)", x.place(c, 0), -1);
        }
    }

    private static void least() {
        BitRopes x = eight();
        Boundary.says(35, "The k-th least (from 0) of the LETTERS from i on ahead of j");
        int[] all = {0, 0, 1, 1, 3, 4, 6, 7};
        for (int k = 0; k < 8; k++) {
            Boundary.due("least(0, 8, " + k + ")", x.least(0, 8, k), all[k]);
            Boundary.due("least(" + k + ", " + (k + 1) + ", 0)", x.least(k, k + 1, 0), x.letter(k));
        }
        Boundary.due("least(1, 7, 0)", x.least(1, 7, 0), 0);
        Boundary.due("least(1, 7, 2)", x.least(1, 7, 2), 3);
        Boundary.due("least(1, 7, 5)", x.least(1, 7, 5), 7);
        Boundary.due("least(0, 200, 199)", full().least(0, 200, 199), 7);
        Boundary.says(35, "there is none such, no such places.");
        Boundary.due("least(0, 8, 8)", x.least(0, 8, 8), -1);
        Boundary.due("least(1, 7, 6)", x.least(1, 7, 6), -1);
        for (int k : new int[] {-1, MIN, MAX}) {
            Boundary.due("least(0, 8, " + k + ")", x.least(0, 8, k), -1);
        }
        for (int i = 0; i <= 8; i++) {
            Boundary.due("least(" + i + ", " + i + ", 0)", x.least(i, i, 0), -1);
        }
        Boundary.due("least(3, 2, 0)", x.least(3, 2, 0), -1);
        for (int i : new int[] {-1, MIN, 9, MAX}) {
            Boundary.due("least(" + i + ", 8, 0)", x.least(i, 8, 0), -1);
            Boundary.due("least(" + i + ", 9, 0)", x.least(i, 9, 0), -1);
        }
        for (int j : new int[] {9, 10, MAX, -1, MIN}) {
            Boundary.due("least(0, " + j + ", 0)", x.least(0, j, 0), -1);
        }
        Boundary.due("least(0, 0, 0) of none", new BitRopes().least(0, 0, 0), -1);
        Boundary.due("least(0, 1, 0) of none", new BitRopes().least(0, 1, 0), -1);
    }

    private static String node(BitRopes x, int n) {
        StringBuilder s = new StringBuilder();
        for (int i = 0; x.node(n, i) != BitRopes.NONE; i++) {
            s.append(x.node(n, i));
        }
        return s.toString();
    }

    private static void nodes() {
        BitRopes x = Check.with("letters hgfedcb abcdefg h;");
        Boundary.says(36, "The bit at place i of a NODE (0 to 6)");
        Boundary.says(Document.LEAVES, "0 has a bit of each LETTER, in their order: its 4");
        Boundary.same("node 0", node(x, 0), "111100000001111");
        Boundary.says(Document.LEAVES, "NODE 1, 2 of each whose bit there is 0, 1: its 2");
        Boundary.same("node 1", node(x, 1), "1100011");
        Boundary.same("node 2", node(x, 2), "11000011");
        Boundary.says(Document.LEAVES, "NODES 3, 4 likewise below 1, NODES 5, 6 below 2: its 1.");
        Boundary.same("node 3", node(x, 3), "101");
        Boundary.same("node 4", node(x, 4), "1001");
        Boundary.same("node 5", node(x, 5), "1001");
        Boundary.same("node 6", node(x, 6), "1001");
        Boundary.says(36, "none, no such one.");
        int[] sizes = {15, 7, 8, 3, 4, 4, 4};
        for (int n = 0; n <= 6; n++) {
            for (int i : new int[] {-1, sizes[n], sizes[n] + 1, MIN, MAX}) {
                Boundary.due("node(" + n + ", " + i + ")", x.node(n, i), -1);
            }
            Boundary.due("node(" + n + ", 0) of none", new BitRopes().node(n, 0), -1);
        }
        for (int n : new int[] {-1, 7, 8, 15, MIN, MAX}) {
            for (int i = 0; i < 4; i++) {
                Boundary.due("node(" + n + ", " + i + ")", x.node(n, i), -1);
            }
        }
        Boundary.due("node(0, 199)", full().node(0, 199), 1);
        Boundary.due("node(0, 200)", full().node(0, 200), -1);
    }

    private static void nodesOfOneLetter() {
        Boundary.says(Document.LEAVES, "NODE 1, 2 of each whose bit there is 0, 1: its 2");
        for (int c = 0; c < 8; c++) {
            BitRopes x = Check.with("letters " + (char) ('a' + c) + ";");
            for (int n = 0; n < 7; n++) {
                boolean there = n == 0 || n == 1 + c / 4 || n == 3 + c / 2;
                int shift = n == 0 ? 2 : n < 3 ? 1 : 0;
                Boundary.due("node(" + n + ", 0) of " + c, x.node(n, 0), there ? c >> shift & 1 : -1);
                Boundary.due("node(" + n + ", 1) of " + c, x.node(n, 1), -1);
            }
        }
    }

    private static void type() {
        Boundary.says(37, "A LETTER is TYPED: 0, or why not");
        Boundary.says(Document.LEAVES, "To TYPE one at i: 1 there is no place i (0 to how many there are); 2 there are 200.");
        BitRopes x = new BitRopes();
        Boundary.due("at 1 of none", x.type(1, 0), 1);
        Boundary.due("at 0 of none", x.type(0, 7), 0);
        Boundary.due("at the end", x.type(1, 0), 0);
        Boundary.due("at 0", x.type(0, 3), 0);
        Boundary.due("at 1", x.type(1, 4), 0);
        Boundary.same("letters", Check.script(x), "deha");
        for (int i : new int[] {-1, 5, 6, MIN, MAX}) {
            Boundary.due("type(" + i + ", 0)", x.type(i, 0), 1);
        }
        BitRopes full = full();
        Boundary.due("200, at 0", full.type(0, 0), 2);
        Boundary.due("200, at the end", full.type(200, 0), 2);
        Boundary.due("200, no place", full.type(201, 0), 1);
        Boundary.due("200, no place", full.type(-1, 0), 1);
        full.erase(100, 1);
        Boundary.due("199", full.type(199, 5), 0);
        Boundary.due("199", full.letter(199), 5);
        Boundary.due("200 again", full.type(0, 5), 2);
        Boundary.says(37, "NONE: no such one.");
        for (int c : NO_LETTERS) {
            Boundary.due("type(0, " + c + ")", x.type(0, c), -1);
            Boundary.due("type(99, " + c + ")", x.type(99, c), -1);
            Boundary.due("type(0, " + c + ") of 200", full.type(0, c), -1);
        }
        Boundary.same("letters", Check.script(x), "deha");
    }

    private static void erase() {
        Boundary.says(38, "n LETTERS (1 to 200) are ERASED: 0, or why not");
        Boundary.says(Document.LEAVES, "To ERASE n from i on: 1 some are not there.");
        BitRopes x = eight();
        Boundary.due("some are not there", x.erase(0, 9), 1);
        Boundary.due("some are not there", x.erase(7, 2), 1);
        Boundary.due("some are not there", x.erase(8, 1), 1);
        Boundary.due("some are not there", x.erase(0, 200), 1);
        for (int i : new int[] {-1, 9, MIN, MAX}) {
            Boundary.due("erase(" + i + ", 1)", x.erase(i, 1), 1);
            Boundary.due("erase(" + i + ", 200)", x.erase(i, 200), 1);
        }
        Boundary.due("of none", new BitRopes().erase(0, 1), 1);
        Boundary.same("letters", Check.script(x), "badgehab");
        Boundary.due("the last", x.erase(7, 1), 0);
        Boundary.due("the first", x.erase(0, 1), 0);
        Boundary.due("in the middle", x.erase(1, 2), 0);
        Boundary.same("letters", Check.script(x), "aeha");
        Boundary.due("all", x.erase(0, 4), 0);
        Boundary.due("none", x.letters(), 0);
        BitRopes full = full();
        Boundary.due("200", full.erase(0, 200), 0);
        Boundary.due("200", full.letters(), 0);
        Boundary.says(38, "NONE: not as told.");
        for (int n : new int[] {0, -1, 201, 202, MIN, MAX}) {
            Boundary.due("erase(0, " + n + ")", full().erase(0, n), -1);
            Boundary.due("erase(-1, " + n + ")", full().erase(-1, n), -1);
            Boundary.due("erase(0, " + n + ") of none", new BitRopes().erase(0, n), -1);
        }
    }
}
