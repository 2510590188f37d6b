/** Promises 31 to 38: the LETTERS. */
public final class LettersTest {
    private static final Check CHECK = new Check();

    public static void main(String[] args) {
        asking();
        nodes();
        typing();
        erasing();
        CHECK.end();
    }

    private static void asking() {
        BitRopes x = Check.with("letters badge hab;");
        CHECK.due("31 letters()", x.letters(), 8);
        CHECK.due("32 letter(0)", x.letter(0), 1);
        CHECK.due("32 letter(5)", x.letter(5), 7);
        CHECK.due("32 letter(8)", x.letter(8), -1);
        CHECK.due("32 letter(-1)", x.letter(-1), -1);
        CHECK.due("33 count(0, 8)", x.count(0, 8), 2);
        CHECK.due("33 count(0, 6)", x.count(0, 6), 1);
        CHECK.due("33 count(1, 0)", x.count(1, 0), 0);
        CHECK.due("33 count(7, 8)", x.count(7, 8), 1);
        CHECK.due("33 count(2, 8)", x.count(2, 8), 0);
        CHECK.due("33 count(8, 0)", x.count(8, 0), -1);
        CHECK.due("33 count(-1, 0)", x.count(-1, 0), -1);
        CHECK.due("33 count(0, 9)", x.count(0, 9), -1);
        CHECK.due("33 count(0, -1)", x.count(0, -1), -1);
        CHECK.due("34 place(1, 0)", x.place(1, 0), 0);
        CHECK.due("34 place(1, 1)", x.place(1, 1), 7);
        CHECK.due("34 place(1, 2)", x.place(1, 2), -1);
        CHECK.due("34 place(1, -1)", x.place(1, -1), -1);
        CHECK.due("34 place(8, 0)", x.place(8, 0), -1);
        CHECK.due("34 place(-1, 0)", x.place(-1, 0), -1);
        // In order: a a b b d e g h.
        CHECK.due("35 least(0, 8, 0)", x.least(0, 8, 0), 0);
        CHECK.due("35 least(0, 8, 3)", x.least(0, 8, 3), 1);
        CHECK.due("35 least(0, 8, 4)", x.least(0, 8, 4), 3);
        CHECK.due("35 least(0, 8, 7)", x.least(0, 8, 7), 7);
        CHECK.due("35 least(0, 8, 8)", x.least(0, 8, 8), -1);
        CHECK.due("35 least(2, 5, 1)", x.least(2, 5, 1), 4);
        CHECK.due("35 least(2, 5, 3)", x.least(2, 5, 3), -1);
        CHECK.due("35 least(2, 2, 0)", x.least(2, 2, 0), -1);
        CHECK.due("35 least(5, 2, 0)", x.least(5, 2, 0), -1);
        CHECK.due("35 least(0, 9, 0)", x.least(0, 9, 0), -1);
        CHECK.due("35 least(-1, 8, 0)", x.least(-1, 8, 0), -1);
        CHECK.due("35 least(0, 8, -1)", x.least(0, 8, -1), -1);
    }

    private static String node(BitRopes x, int n) {
        StringBuilder s = new StringBuilder();
        for (int i = 0; x.node(n, i) != BitRopes.NONE; i++) {
            s.append(x.node(n, i));
        }
        return s.toString();
    }

    private static void nodes() {
        BitRopes x = Check.with("letters abcdefg hhgfedc;");
        CHECK.same("36 node 0", node(x, 0), "00001111111100");
        CHECK.same("36 node 1", node(x, 1), "001111");
        CHECK.same("36 node 2", node(x, 2), "00111100");
        CHECK.same("36 node 3", node(x, 3), "01");
        CHECK.same("36 node 4", node(x, 4), "0110");
        CHECK.same("36 node 5", node(x, 5), "0110");
        CHECK.same("36 node 6", node(x, 6), "0110");
        CHECK.due("36 node(7, 0)", x.node(7, 0), -1);
        CHECK.due("36 node(-1, 0)", x.node(-1, 0), -1);
        CHECK.due("36 node(0, 14)", x.node(0, 14), -1);
        CHECK.due("36 node(0, -1)", x.node(0, -1), -1);
    }

    private static void typing() {
        BitRopes x = new BitRopes();
        CHECK.due("37 type(0, 8)", x.type(0, 8), -1);
        CHECK.due("37 type(0, -1)", x.type(0, -1), -1);
        CHECK.due("37 type(1, 0)", x.type(1, 0), 1);
        CHECK.due("37 type(-1, 0)", x.type(-1, 0), 1);
        CHECK.due("37 nothing was done", x.undo(), -1);
        CHECK.due("37 type(0, 2)", x.type(0, 2), 0);
        CHECK.due("37 type(1, 4)", x.type(1, 4), 0);
        CHECK.due("37 type(1, 3)", x.type(1, 3), 0);
        CHECK.due("37 type(0, 0)", x.type(0, 0), 0);
        CHECK.same("37 letters", Check.script(x), "acde");
        for (int k = 4; k < 200; k++) {
            CHECK.due("37 type", x.type(k, k % 8), 0);
        }
        CHECK.due("37 there are 200", x.type(0, 0), 2);
        CHECK.due("37 the least", x.type(201, 0), 1);
    }

    private static void erasing() {
        BitRopes x = Check.with("letters abcdefg h;");
        CHECK.due("38 erase(0, 0)", x.erase(0, 0), -1);
        CHECK.due("38 erase(0, 201)", x.erase(0, 201), -1);
        CHECK.due("38 erase(0, -1)", x.erase(0, -1), -1);
        CHECK.due("38 erase(0, 9)", x.erase(0, 9), 1);
        CHECK.due("38 erase(0, 200)", x.erase(0, 200), 1);
        CHECK.due("38 erase(8, 1)", x.erase(8, 1), 1);
        CHECK.due("38 erase(-1, 1)", x.erase(-1, 1), 1);
        CHECK.due("38 erase(max, 1)", x.erase(Integer.MAX_VALUE, 1), 1);
        CHECK.due("38 nothing was done", x.undo(), -1);
        CHECK.due("38 erase(2, 3)", x.erase(2, 3), 0);
        CHECK.same("38 letters", Check.script(x), "abfgh");
        CHECK.due("38 erase(4, 1)", x.erase(4, 1), 0);
        CHECK.same("38 letters", Check.script(x), "abfg");
        CHECK.due("38 all", x.erase(0, 4), 0);
        CHECK.due("38 all", x.letters(), 0);
    }
}
