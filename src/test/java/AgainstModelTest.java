import java.util.Arrays;
import java.util.NoSuchElementException;
import java.util.Random;

/** All promises: long runs of calls by chance (always the same ones), each answer as the model's. */
public final class AgainstModelTest {
    private static final String[] WORDS = Model.TOLD.stream().sorted().toArray(String[]::new);
    private static final String[] NAMES = {"a", "m", "w", "io", "xyz", "longest"};
    private final Random random;
    private final BitRopes x = new BitRopes();
    private final Model m = new Model();
    private final StringBuilder log = new StringBuilder();

    private AgainstModelTest(long seed) {
        random = new Random(seed);
    }

    public static void main(String[] args) {
        int runs = args.length > 0 ? Integer.parseInt(args[0]) : 300;
        for (int seed = 0; seed < runs; seed++) {
            AgainstModelTest run = new AgainstModelTest(seed);
            String wrong = run.go();
            if (wrong != null) {
                System.out.println("run of seed " + seed + ": " + wrong);
                System.out.println(run.log);
                System.exit(1);
            }
        }
        System.out.println("all answers are as due in " + runs + " runs");
    }

    private String go() {
        String wrong = null;
        say(room());
        wrong = same("room", x.room(), m.room());
        for (int call = 0; call < 400 && wrong == null; call++) {
            wrong = call();
            if (wrong == null && random.nextInt(8) == 0) {
                wrong = same("state", state(x), state(m));
            }
        }
        return wrong;
    }

    private String same(String call, Object got, Object want) {
        log.append(call).append(" -> ").append(want).append('\n');
        return got.equals(want) ? null : call + " answered " + got + ", the model " + want;
    }

    private static String state(BitRopes x) {
        StringBuilder s = new StringBuilder();
        for (int r = 0; r < x.total(0); r++) {
            s.append(Check.row(x, r)).append('|').append(Check.leaves(x, r)).append('/');
        }
        return s.append(Check.script(x)).append(x.total(1)).toString();
    }

    private static String state(Model x) {
        StringBuilder s = new StringBuilder();
        for (int r = 0; r < x.total(0); r++) {
            for (int i = 0; i < x.size(r); i++) s.append(x.bit(r, i));
            s.append('|');
            for (int k = 0; k < x.leaves(r); k++) s.append(k > 0 ? " " : "").append(x.leaf(r, k, 0));
            s.append('/');
        }
        for (int i = 0; i < x.letters(); i++) s.append((char) ('a' + x.letter(i)));
        return s.append(x.total(1)).toString();
    }

    private void say(int[] bytes) {
        x.end(0);
        m.end(0);
        Check.feed(x, bytes);
        m.feed(bytes);
        log.append("tape: ").append(Arrays.toString(bytes)).append('\n');
    }

    private void say(String text) {
        Check.feed(x, text);
        m.end(0);
        m.feed(text.chars().toArray());
        log.append("tape: \"").append(text).append("\"\n");
    }

    private int below(int n) {
        return random.nextInt(n);
    }

    private String name() {
        return below(30) == 0 ? WORDS[below(WORDS.length)] : NAMES[below(NAMES.length)];
    }

    /** A word, or now and then a blank too many. */
    private String gap() {
        return below(12) == 0 ? "\n " : " ";
    }

    private String word(String letters) {
        StringBuilder s = new StringBuilder();
        int n = 1 + below(below(60) == 0 ? 8 : 7);
        for (int k = 0; k < n; k++) s.append(letters.charAt(below(letters.length())));
        return s.toString();
    }

    private String room() {
        StringBuilder s = new StringBuilder();
        if (below(4) > 0) s.append("leaf ").append(below(3) > 0 ? 4 + below(3) : 2 + below(33)).append(";");
        int rows = 1 + below(4) + (below(20) == 0 ? 1 : 0);
        for (int r = 0; r < rows; r++) {
            s.append("row").append(gap()).append(below(8) == 0 ? name() : NAMES[r]);
            int words = below(6) == 0 ? below(92) : below(15);
            for (int k = 0; k < words; k++) s.append(gap()).append(word(below(500) == 0 ? "iox" : "io"));
            s.append(";");
        }
        if (below(3) > 0) {
            s.append("letters");
            int words = below(6) == 0 ? below(34) : below(8);
            for (int k = 0; k < words; k++) s.append(gap()).append(word(below(300) == 0 ? "abi" : "abcdefgh"));
            s.append(";");
        }
        return fit(s, 900);
    }

    /** Not longer than the tape, and seldom longer than may be; now and then spoiled. */
    private String fit(StringBuilder s, int most) {
        if (below(12) == 0) spoil(s);
        if (below(40) == 0) s.append(" ".repeat(Math.max(0, most - s.length() + below(3) - 1)));
        int length = s.length();
        int bound = below(10) == 0 ? Math.min(940, most + 20) : most;
        if (length > bound) s.setLength(bound);
        return s.toString();
    }

    private void spoil(StringBuilder s) {
        if (s.length() == 0) return;
        int p = below(s.length());
        switch (below(5)) {
            case 0 -> s.deleteCharAt(p);
            case 1 -> s.insert(p, ";<=>().A\u00e9 9z".charAt(below(11)));
            case 2 -> s.setLength(p);
            case 3 -> s.insert(p, " " + WORDS[below(WORDS.length)] + " ");
            default -> s.setCharAt(p, "io;( x1".charAt(below(7)));
        }
    }

    private String lines() {
        StringBuilder s = new StringBuilder();
        int many = below(15) == 0 ? 38 + below(5) : below(9);
        for (int k = 0; k < many; k++) s.append(line(many > 20)).append(below(6) == 0 ? ";\n" : ";");
        return fit(s, 400);
    }

    private String line(boolean brief) {
        String row = name();
        String other = below(30) == 0 ? row : name();
        int place = below(10) == 0 ? below(1000) : below(9);
        int many = below(40) == 0 ? below(620) : 1 + below(6);
        if (brief) return below(2) == 0 ? "type 0 " + below(8) : "put a 0 " + below(2);
        return switch (below(8)) {
            case 0 -> "put " + row + gap() + place + " " + (below(40) == 0 ? 2 : below(2));
            case 1 -> "set " + row + gap() + place + " " + (below(40) == 0 ? 2 : below(2));
            case 2 -> "cut " + row + gap() + place + " " + many;
            case 3 -> "turn " + row + gap() + place + " " + many;
            case 4 -> "join " + row + gap() + other;
            case 5 -> "split " + row + gap() + place + " " + other;
            case 6 -> "type " + place + gap() + below(below(40) == 0 ? 9 : 8);
            default -> "erase " + place + gap() + many;
        };
    }

    private String cond(int depth) {
        StringBuilder s = new StringBuilder(one(depth));
        for (int k = below(4); k > 0; k--) s.append(below(2) == 0 ? " or " : " and ").append(one(depth));
        return s.toString();
    }

    private String one(int depth) {
        int kind = below(depth > 7 && below(9) > 0 ? 6 : 10);
        return switch (kind) {
            case 0 -> "empty";
            case 1 -> "even";
            case 2 -> "like " + name();
            case 3 -> "begins " + name();
            case 4, 5 -> WORDS[Arrays.binarySearch(WORDS, new String[] {"size", "ones", "runs", "leaves", "number"}[below(5)])]
                + " " + "<=>".charAt(below(3)) + (below(2) == 0 ? "" : " ") + below(below(2) == 0 ? 5 : 300);
            case 6, 7 -> "not " + one(depth + 1);
            default -> depth > 3 && below(2) == 0 ? "(" + one(depth + 1) + ")" : "(" + cond(depth + 1) + ")";
        };
    }

    private int row() {
        return below(25) == 0 ? below(7) - 1 : below(Math.max(1, m.total(0)));
    }

    private int bit() {
        return below(25) == 0 ? below(4) - 1 : below(2);
    }

    private int spot(int size) {
        int kind = below(30);
        if (kind == 0) return below(2) == 0 ? Integer.MAX_VALUE - below(3) : Integer.MIN_VALUE + below(3);
        if (kind == 1) return -1;
        if (kind < 5) return size + below(3) - 1;
        if (kind < 8) return 0;
        return below(size + 1);
    }

    private int some(int most) {
        int kind = below(25);
        if (kind == 0) return below(2) == 0 ? Integer.MAX_VALUE : Integer.MIN_VALUE;
        if (kind == 1) return 0;
        if (kind == 2) return most + below(2);
        return 1 + below(kind < 18 ? 6 : Math.max(1, most));
    }

    private String call() {
        return switch (below(6)) {
            case 0 -> bitsCall();
            case 1 -> leavesCall();
            case 2, 3 -> deedCall();
            case 4 -> lettersCall();
            default -> textCall();
        };
    }

    private String bitsCall() {
        int r = row();
        int s = row();
        int i = spot(Math.max(0, m.size(r)));
        int b = bit();
        return switch (below(10)) {
            case 0 -> same("size " + r, x.size(r), m.size(r));
            case 1 -> same("bit " + r + " " + i, x.bit(r, i), m.bit(r, i));
            case 2 -> same("rank " + r + " " + i + " " + b, x.rank(r, i, b), m.rank(r, i, b));
            case 3 -> same("select " + r + " " + i / 2 + " " + b, x.select(r, i / 2, b), m.select(r, i / 2, b));
            case 4 -> same("find " + r + " " + i + " " + b, x.find(r, i, b), m.find(r, i, b));
            case 5 -> same("runs " + r, x.runs(r), m.runs(r));
            case 6 -> same("longest " + r + " " + b, x.longest(r, b), m.longest(r, b));
            case 7 -> same("word " + r + " " + i, answer(() -> x.word(r, i)), answer(() -> m.word(r, i)));
            case 8 -> same("apart " + r + " " + s, x.apart(r, s), m.apart(r, s));
            default -> same("differ " + r + " " + s, x.differ(r, s), m.differ(r, s));
        };
    }

    private interface Asks {
        int ask();
    }

    private static String answer(Asks asks) {
        try {
            return "" + asks.ask();
        } catch (NoSuchElementException e) {
            return "throws";
        }
    }

    private String leavesCall() {
        int r = row();
        int size = Math.max(0, m.size(r));
        int i = spot(size);
        int n = some(size);
        int k = spot(Math.max(0, m.leaves(r)));
        int what = below(5) - (below(9) == 0 ? 1 : 0);
        return switch (below(8)) {
            case 0 -> same("leaves " + r, x.leaves(r), m.leaves(r));
            case 1, 2 -> same("leaf " + r + " " + k + " " + what, x.leaf(r, k, what), m.leaf(r, k, what));
            case 3 -> same("tree " + r + " " + what, x.tree(r, what), m.tree(r, what));
            case 4, 5 -> same("dense " + r + " " + i + " " + n, answer(() -> x.dense(r, i, n)), answer(() -> m.dense(r, i, n)));
            case 6 -> same("load " + r, answer(() -> x.load(r)), answer(() -> m.load(r)));
            default -> {
                int half = bit();
                yield same("centre " + r + " " + half, answer(() -> x.centre(r, half)), answer(() -> m.centre(r, half)));
            }
        };
    }

    private String deedCall() {
        int r = row();
        int s = row();
        int size = Math.max(0, m.size(r));
        int i = spot(size);
        int b = bit();
        int n = some(size);
        return switch (below(13)) {
            case 0, 1 -> same("put " + r + " " + i + " " + b, x.put(r, i, b), m.put(r, i, b));
            case 2 -> same("set " + r + " " + i + " " + b, x.set(r, i, b), m.set(r, i, b));
            case 3, 4 -> same("cut " + r + " " + i + " " + n, x.cut(r, i, n), m.cut(r, i, n));
            case 5 -> same("turn " + r + " " + i + " " + n, x.turn(r, i, n), m.turn(r, i, n));
            case 6, 7 -> {
                say(tapeOfBits(64));
                yield same("paste " + r + " " + i, x.paste(r, i), m.paste(r, i));
            }
            case 8 -> same("join " + r + " " + s, x.join(r, s), m.join(r, s));
            case 9 -> same("split " + r + " " + i + " " + s, x.split(r, i, s), m.split(r, i, s));
            case 10 -> {
                int seed = random.nextInt();
                int many = below(9) == 0 ? below(64) - 1 : 1 + below(10);
                yield same("drawn " + many + " " + seed, x.drawn(many, seed), m.drawn(many, seed));
            }
            default -> same("undo", x.undo(), m.undo());
        };
    }

    private int[] tapeOfBits(int most) {
        int n = below(20) == 0 ? most + below(3) - 1 : below(20) == 0 ? 0 : 1 + below(below(3) == 0 ? most : 4);
        int[] bits = new int[n];
        for (int k = 0; k < n; k++) bits[k] = below(400) == 0 ? below(256) : below(2);
        return bits;
    }

    private String lettersCall() {
        int size = m.letters();
        int i = spot(size);
        int j = spot(size);
        int k = spot(size) / 3;
        int c = below(20) == 0 ? below(11) - 1 : below(8);
        int n = some(size);
        return switch (below(11)) {
            case 0 -> same("letters", x.letters(), m.letters());
            case 1 -> same("letter " + i, x.letter(i), m.letter(i));
            case 2 -> same("count " + c + " " + i, x.count(c, i), m.count(c, i));
            case 3 -> same("place " + c + " " + k, x.place(c, k), m.place(c, k));
            case 4, 5 -> same("least " + i + " " + j + " " + k, x.least(i, j, k), m.least(i, j, k));
            case 6 -> same("node " + (c - 1) + " " + k, x.node(c - 1, k), m.node(c - 1, k));
            case 7, 8, 9 -> same("type " + i + " " + c, x.type(i, c), m.type(i, c));
            default -> same("erase " + i + " " + n, x.erase(i, n), m.erase(i, n));
        };
    }

    private String textCall() {
        int k = below(6) - 2;
        switch (below(14)) {
            case 0:
                if (below(3) > 0) return null;
                say(room());
                return same("room", x.room(), m.room());
            case 1, 2:
                say(lines());
                int lives = below(30) == 0 ? 2 : below(2);
                return same("book " + lives, x.book(lives), m.book(lives));
            case 3, 4:
                say(fit(new StringBuilder(cond(1)), 200));
                return same("sentence", x.sentence(), m.sentence());
            case 5, 6:
                return same("said " + k, x.said(k), m.said(k));
            case 7:
                return same("told " + k, x.told(k), m.told(k));
            case 8:
                return same("fault", x.fault(), m.fault());
            case 9:
                say(tapeOfBits(32));
                int r = row();
                return same("seek " + r, x.seek(r), m.seek(r));
            case 10:
                return same("seekAt " + k, x.seekAt(k), m.seekAt(k));
            case 11:
                return below(3) > 0 ? same("image " + k, x.image(k), m.image(k)) : same("restore " + k, x.restore(k), m.restore(k));
            case 12:
                return same("total " + k, x.total(k), m.total(k));
            default:
                int n = spot(m.total(3));
                return same("end " + n, x.end(n), m.end(n));
        }
    }
}
