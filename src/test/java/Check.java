import java.util.NoSuchElementException;

/** What the tests share: answers that are due, and texts told to an object. */
final class Check {
    private int wrong;

    void due(String call, long got, long want) {
        if (got != want) {
            wrong++;
            System.out.println(call + " answered " + got + ", due is " + want);
        }
    }

    void due(String call, boolean got, boolean want) {
        due(call, got ? 1 : 0, want ? 1 : 0);
    }

    void noSuchElement(String call, Runnable deed) {
        try {
            deed.run();
        } catch (NoSuchElementException e) {
            return;
        }
        wrong++;
        System.out.println(call + " threw nothing, due is NoSuchElementException");
    }

    void end() {
        System.out.println(wrong == 0 ? "all answers are as due" : wrong + " answers are not as due");
        if (wrong != 0) {
            System.exit(1);
        }
    }

    static void feed(BitRopes x, int[] bytes) {
        if (!x.end(0)) {
            throw new IllegalStateException("a tape can always be emptied");
        }
        for (int at = 0; at < bytes.length; at += 20) {
            int[] five = new int[5];
            for (int k = 0; k < 20; k++) {
                five[k / 4] = five[k / 4] << 8 | (at + k < bytes.length ? bytes[at + k] : 0);
            }
            if (x.feed(five[0], five[1], five[2], five[3], five[4]) == BitRopes.NONE) {
                throw new IllegalStateException("the test's text is too long for the tape");
            }
        }
        if (!x.end(bytes.length)) {
            throw new IllegalStateException("the tape has what was fed");
        }
    }

    static void feed(BitRopes x, String text) {
        feed(x, text.chars().toArray());
    }

    static void bits(BitRopes x, String bits) {
        feed(x, bits.chars().map(c -> c - '0').toArray());
    }

    static int room(BitRopes x, String text) {
        feed(x, text);
        return x.room();
    }

    static int book(BitRopes x, String text, int lives) {
        feed(x, text);
        return x.book(lives);
    }

    static int sentence(BitRopes x, String text) {
        feed(x, text);
        return x.sentence();
    }

    static BitRopes with(String room) {
        BitRopes x = new BitRopes();
        if (room(x, room) < 0) {
            throw new IllegalStateException("a FAULT in the test's own room: " + room);
        }
        return x;
    }

    /** n bits as BITS of a ROOM, noughts and ones by turns, seven in a WORD. */
    static String manyBits(int n) {
        StringBuilder s = new StringBuilder();
        for (int k = 0; k < n; k++) {
            s.append(k > 0 && k % 7 == 0 ? " " : "").append(k % 2 == 0 ? 'o' : 'i');
        }
        return s.toString();
    }

    static String row(BitRopes x, int r) {
        StringBuilder s = new StringBuilder();
        for (int i = 0; i < x.size(r); i++) {
            s.append(x.bit(r, i));
        }
        return s.toString();
    }

    static String leaves(BitRopes x, int r) {
        StringBuilder s = new StringBuilder();
        for (int k = 0; k < x.leaves(r); k++) {
            s.append(k > 0 ? " " : "").append(x.leaf(r, k, 0));
        }
        return s.toString();
    }

    static String script(BitRopes x) {
        StringBuilder s = new StringBuilder();
        for (int i = 0; i < x.letters(); i++) {
            s.append((char) ('a' + x.letter(i)));
        }
        return s.toString();
    }

    void same(String what, String got, String want) {
        if (!got.equals(want)) {
            wrong++;
            System.out.println(what + " is \"" + got + "\", due is \"" + want + "\"");
        }
    }
}
