import java.util.ArrayDeque;
import java.util.ArrayList;
import java.util.Arrays;
import java.util.Deque;
import java.util.HashSet;
import java.util.List;
import java.util.NoSuchElementException;
import java.util.Set;
import java.util.stream.Collectors;

/** The document a second time, as plainly as the Java library lets it be said: leaves are lists of bits. */
final class Model {
    static final Set<String> TOLD = new HashSet<>(Arrays.asList(("leaf row letters put set cut turn join split type erase"
        + " or and not empty even like begins size ones runs leaves number").split(" ")));

    /** A fault in a text: thrown where it is found. */
    private static final class Fault extends RuntimeException {
        private static final long serialVersionUID = 1;
        final int kind;
        final int place;

        Fault(int kind, int place) {
            this.kind = kind;
            this.place = place;
        }
    }

    private record Token(String text, int at, char sort) {
    }

    private static final class World {
        int low = 8;
        List<String> names = new ArrayList<>();
        List<List<List<Integer>>> rows = new ArrayList<>();
        List<Integer> letters = new ArrayList<>();

        World copy() {
            World w = new World();
            w.low = low;
            w.names = new ArrayList<>(names);
            for (List<List<Integer>> row : rows) {
                w.rows.add(row.stream().map(ArrayList::new).collect(Collectors.toCollection(ArrayList::new)));
            }
            w.letters = new ArrayList<>(letters);
            return w;
        }

        List<Integer> bits(int r) {
            return rows.get(r).stream().flatMap(List::stream).collect(Collectors.toList());
        }

        int size(int r) {
            return rows.get(r).stream().mapToInt(List::size).sum();
        }

        int all() {
            return rows.stream().flatMap(List::stream).mapToInt(List::size).sum();
        }

        void halve(List<List<Integer>> row, int k) {
            List<Integer> leaf = row.get(k);
            if (leaf.size() > 2 * low) {
                int half = (leaf.size() + 1) / 2;
                row.set(k, new ArrayList<>(leaf.subList(0, half)));
                row.add(k + 1, new ArrayList<>(leaf.subList(half, leaf.size())));
            }
        }

        void put(int r, int i, int b) {
            List<List<Integer>> row = rows.get(r);
            if (row.isEmpty()) {
                row.add(new ArrayList<>(List.of(b)));
                return;
            }
            int k = 0;
            int start = 0;
            while (i - 1 >= start + row.get(k).size()) {
                start += row.get(k).size();
                k++;
            }
            row.get(k).add(i - start, b);
            halve(row, k);
        }

        void take(int r, int i) {
            List<List<Integer>> row = rows.get(r);
            int k = 0;
            int start = 0;
            while (i >= start + row.get(k).size()) {
                start += row.get(k).size();
                k++;
            }
            row.get(k).remove(i - start);
            if (row.get(k).size() < low && row.size() > 1) {
                int first = k == row.size() - 1 ? k - 1 : k;
                row.get(first).addAll(row.remove(first + 1));
                halve(row, first);
            }
            row.removeIf(List::isEmpty);
        }

        void flip(int r, int i) {
            for (List<Integer> leaf : rows.get(r)) {
                if (i < leaf.size()) {
                    leaf.set(i, 1 - leaf.get(i));
                    return;
                }
                i -= leaf.size();
            }
        }

        /** Does a deed, if it can be: 0, or why not. */
        int deed(String what, int a, int b, int c) {
            switch (what) {
                case "put":
                    if (b < 0 || b > size(a)) return 1;
                    if (size(a) == 600) return 2;
                    put(a, b, c);
                    return 0;
                case "set":
                    if (b < 0 || b >= size(a)) return 1;
                    if (bits(a).get(b) == c) return 2;
                    flip(a, b);
                    return 0;
                case "cut":
                    if (b < 0 || (long) b + c > size(a)) return 1;
                    for (int k = 0; k < c; k++) take(a, b);
                    return 0;
                case "turn":
                    if (b < 0 || (long) b + c > size(a)) return 1;
                    for (int k = 0; k < c; k++) flip(a, b + k);
                    return 0;
                case "join":
                    if (size(b) == 0) return 1;
                    if (size(a) + size(b) > 600) return 2;
                    for (int bit : bits(b)) put(a, size(a), bit);
                    rows.get(b).clear();
                    return 0;
                case "split":
                    if (b < 0 || b >= size(a)) return 1;
                    if (size(c) + size(a) - b > 600) return 2;
                    for (int bit : bits(a).subList(b, size(a))) put(c, size(c), bit);
                    while (size(a) > b) take(a, b);
                    return 0;
                case "type":
                    if (a < 0 || a > letters.size()) return 1;
                    if (letters.size() == 200) return 2;
                    letters.add(a, b);
                    return 0;
                case "erase":
                    if (a < 0 || (long) a + b > letters.size()) return 1;
                    letters.subList(a, a + b).clear();
                    return 0;
                default:
                    throw new IllegalArgumentException(what);
            }
        }
    }

    private interface Says {
        boolean of(World w, int r);
    }

    private List<Integer> tape = new ArrayList<>();
    private World now = new World();
    private Says says;
    private int fault;
    private int[] told = {-1, -1, -1, -1};
    private List<Integer> found = new ArrayList<>();
    private final Deque<World> undone = new ArrayDeque<>();
    private final World[] images = new World[2];
    private final Says[] imageSays = new Says[2];
    // Where a text is being read.
    private List<Token> tokens;
    private int next;
    private int ones;

    private static Token tokenAt(List<Integer> text, int at) {
        StringBuilder s = new StringBuilder();
        for (int p = at; p < text.size() && ("" + (char) (int) text.get(p)).matches("[a-z0-9]"); p++) {
            s.append((char) (int) text.get(p));
        }
        if (s.length() == 0) {
            String sign = "" + (char) (int) text.get(at);
            return new Token(sign, at, ";<=>()".contains(sign) ? 's' : 'x');
        }
        String t = s.toString();
        return new Token(t, at, t.matches("[a-z]{1,7}") ? 'w' : t.matches("[0-9]{1,3}") ? 'n' : 'x');
    }

    private void read(int most) {
        tokens = new ArrayList<>();
        next = 0;
        int p = 0;
        while (p < Math.min(tape.size(), most)) {
            if (tape.get(p) == 32 || tape.get(p) == 10) {
                p++;
                continue;
            }
            Token t = tokenAt(tape, p);
            tokens.add(t);
            p += t.text().length();
        }
        tokens.add(tape.size() > most ? new Token("", most, 'x') : new Token("", tape.size(), 'e'));
        tape = new ArrayList<>();
    }

    private Token peek() {
        return tokens.get(next);
    }

    private boolean is(String text) {
        return peek().text().equals(text) && peek().sort() != 'x' && peek().sort() != 'e';
    }

    private Token want(char sort) {
        if (peek().sort() != sort) {
            throw new Fault(1, peek().at());
        }
        return tokens.get(next++);
    }

    private void wantSign(String sign) {
        if (!is(sign)) {
            throw new Fault(1, peek().at());
        }
        next++;
    }

    private int wantNumber(int least, int most) {
        Token t = want('n');
        int n = Integer.parseInt(t.text());
        if (n < least || n > most) {
            throw new Fault(2, t.at());
        }
        return n;
    }

    private Token wantName() {
        if (TOLD.contains(peek().text())) {
            throw new Fault(1, peek().at());
        }
        return want('w');
    }

    private int wantRow(int not) {
        Token t = wantName();
        int r = now.names.indexOf(t.text());
        if (r < 0 || r == not) {
            throw new Fault(3, t.at());
        }
        return r;
    }

    boolean feed(int[] bytes) {
        if (tape.size() + bytes.length > 940) {
            return false;
        }
        for (int b : bytes) {
            tape.add(b);
        }
        return true;
    }

    boolean end(int n) {
        if (n < 0 || n > tape.size()) {
            return false;
        }
        tape = new ArrayList<>(tape.subList(0, n));
        return true;
    }

    int room() {
        fault = 0;
        read(900);
        World w = new World();
        int lines = 0;
        try {
            boolean letters = false;
            while (peek().sort() != 'e') {
                Token t = peek();
                if (is("leaf")) {
                    next++;
                    if (lines > 0) throw new Fault(3, t.at());
                    w.low = wantNumber(4, 32);
                } else if (is("row")) {
                    next++;
                    if (w.rows.size() == 4) throw new Fault(4, t.at());
                    Token name = wantName();
                    if (w.names.contains(name.text())) throw new Fault(3, name.at());
                    w.names.add(name.text());
                    w.rows.add(new ArrayList<>());
                    readBits(w);
                } else if (is("letters")) {
                    next++;
                    if (letters) throw new Fault(3, t.at());
                    letters = true;
                    readLetters(w);
                } else {
                    throw new Fault(1, t.at());
                }
                wantSign(";");
                lines++;
            }
        } catch (Fault f) {
            fault = f.kind;
            return -1 - f.place;
        }
        now = w;
        says = null;
        undone.clear();
        return lines;
    }

    private void readBits(World w) {
        int r = w.rows.size() - 1;
        while (peek().sort() == 'w') {
            Token t = want('w');
            if (!t.text().matches("[io]*")) throw new Fault(2, t.at());
            if (w.size(r) + t.text().length() > 600) throw new Fault(4, t.at());
            for (char c : t.text().toCharArray()) w.put(r, w.size(r), c == 'i' ? 1 : 0);
        }
    }

    private void readLetters(World w) {
        while (peek().sort() == 'w') {
            Token t = want('w');
            if (!t.text().matches("[a-h]*")) throw new Fault(2, t.at());
            if (w.letters.size() + t.text().length() > 200) throw new Fault(4, t.at());
            for (char c : t.text().toCharArray()) w.letters.add(c - 'a');
        }
    }

    int fault() {
        return fault;
    }

    private boolean no(int r) {
        return r < 0 || r >= now.rows.size();
    }

    int size(int r) {
        return no(r) ? -1 : now.size(r);
    }

    int bit(int r, int i) {
        return no(r) || i < 0 || i >= now.size(r) ? -1 : now.bits(r).get(i);
    }

    int rank(int r, int i, int b) {
        if (no(r) || b < 0 || b > 1 || i < 0 || i > now.size(r)) return -1;
        return (int) now.bits(r).subList(0, i).stream().filter(x -> x == b).count();
    }

    private List<Integer> places(int r, int b) {
        List<Integer> bits = now.bits(r);
        List<Integer> at = new ArrayList<>();
        for (int p = 0; p < bits.size(); p++) {
            if (bits.get(p) == b) at.add(p);
        }
        return at;
    }

    int select(int r, int k, int b) {
        if (no(r) || b < 0 || b > 1) return -1;
        List<Integer> at = places(r, b);
        return k < 0 || k >= at.size() ? -1 : at.get(k);
    }

    int find(int r, int i, int b) {
        if (no(r) || b < 0 || b > 1 || i < 0) return -1;
        return places(r, b).stream().filter(p -> p >= i).findFirst().orElse(-1);
    }

    private static List<Integer> runLengths(List<Integer> bits, int b) {
        List<Integer> lengths = new ArrayList<>();
        int p = 0;
        while (p < bits.size()) {
            int q = p;
            while (q < bits.size() && bits.get(q).equals(bits.get(p))) q++;
            if (b < 0 || bits.get(p) == b) lengths.add(q - p);
            p = q;
        }
        return lengths;
    }

    int runs(int r) {
        return no(r) ? -1 : runLengths(now.bits(r), -1).size();
    }

    int longest(int r, int b) {
        if (no(r) || b < 0 || b > 1) return -1;
        return runLengths(now.bits(r), b).stream().mapToInt(n -> n).max().orElse(0);
    }

    int word(int r, int i) {
        if (no(r) || i < 0 || i > now.size(r)) throw new NoSuchElementException();
        StringBuilder s = new StringBuilder();
        for (int b : now.bits(r).subList(i, now.size(r))) s.append(b);
        s.append("0".repeat(32));
        return Integer.parseUnsignedInt(s.substring(0, 32), 2);
    }

    int leaves(int r) {
        return no(r) ? -1 : now.rows.get(r).size();
    }

    int leaf(int r, int k, int what) {
        if (no(r) || k < 0 || k >= now.rows.get(r).size() || what < 0 || what > 2) return -1;
        List<Integer> leaf = now.rows.get(r).get(k);
        if (what == 0) return leaf.size();
        if (what == 1) return leaf.stream().mapToInt(b -> b).sum();
        return now.rows.get(r).subList(0, k).stream().mapToInt(List::size).sum();
    }

    /** Height, inner ones and mixed ones of a tree of n leaves. */
    private static int[] treeOf(int n) {
        if (n <= 1) return new int[] {0, 0, 0};
        int first = (n + 1) / 2;
        int[] a = treeOf(first);
        int[] b = treeOf(n - first);
        boolean mixed = (first == 1) != (n - first == 1);
        return new int[] {1 + Math.max(a[0], b[0]), 1 + a[1] + b[1], (mixed ? 1 : 0) + a[2] + b[2]};
    }

    int tree(int r, int what) {
        if (no(r) || what < 0 || what > 3) return -1;
        int[] t = treeOf(now.rows.get(r).size());
        if (what < 3) return t[what];
        int cost = 5 * t[1];
        for (List<Integer> leaf : now.rows.get(r)) cost += 4 + (int) Math.ceil(leaf.size() / 32.0);
        return cost;
    }

    int dense(int r, int i, int n) {
        if (no(r) || n < 1 || i < 0 || (long) i + n > now.size(r)) throw new NoSuchElementException();
        float some = now.bits(r).subList(i, i + n).stream().mapToInt(b -> b).sum();
        return Float.floatToIntBits(some / (float) n);
    }

    int load(int r) {
        if (no(r) || now.size(r) == 0) throw new NoSuchElementException();
        return Float.floatToIntBits((float) (32 * tree(r, 3)) / (float) now.size(r));
    }

    int centre(int r, int half) {
        if (no(r) || half < 0 || half > 1 || places(r, 1).isEmpty()) throw new NoSuchElementException();
        double sum = 0;
        for (int p : places(r, 1)) sum += p;
        long bits = Double.doubleToLongBits(sum / (double) places(r, 1).size());
        return half == 0 ? (int) (bits >> 32) : (int) bits;
    }

    int apart(int r, int s) {
        if (no(r) || no(s)) return -1;
        int many = Math.abs(now.size(r) - now.size(s));
        for (int p = 0; p < Math.min(now.size(r), now.size(s)); p++) {
            if (bit(r, p) != bit(s, p)) many++;
        }
        return many;
    }

    int differ(int r, int s) {
        if (no(r) || no(s)) return -1;
        for (int p = 0; p < Math.max(now.size(r), now.size(s)); p++) {
            if (bit(r, p) != bit(s, p)) return p;
        }
        return -1;
    }

    private List<Integer> takeBits(int most) {
        List<Integer> bits = tape;
        tape = new ArrayList<>();
        boolean good = bits.size() >= 1 && bits.size() <= most && bits.stream().allMatch(b -> b <= 1);
        return good ? bits : null;
    }

    int seek(int r) {
        List<Integer> bits = takeBits(32);
        if (bits == null || no(r)) return -1;
        found = new ArrayList<>();
        List<Integer> row = now.bits(r);
        for (int p = 0; p + bits.size() <= row.size(); p++) {
            if (row.subList(p, p + bits.size()).equals(bits)) found.add(p);
        }
        return found.size();
    }

    int seekAt(int k) {
        return k < 0 || k >= found.size() ? -1 : found.get(k);
    }

    private void keep(World w) {
        undone.push(w);
        if (undone.size() > 8) undone.removeLast();
    }

    private int kept(String what, int a, int b, int c) {
        World ahead = now.copy();
        int why = now.deed(what, a, b, c);
        if (why == 0) keep(ahead);
        return why;
    }

    int put(int r, int i, int b) {
        return no(r) || b < 0 || b > 1 ? -1 : kept("put", r, i, b);
    }

    int set(int r, int i, int b) {
        return no(r) || b < 0 || b > 1 ? -1 : kept("set", r, i, b);
    }

    int cut(int r, int i, int n) {
        return no(r) || n < 1 || n > 600 ? -1 : kept("cut", r, i, n);
    }

    int turn(int r, int i, int n) {
        return no(r) || n < 1 || n > 600 ? -1 : kept("turn", r, i, n);
    }

    int paste(int r, int i) {
        List<Integer> bits = takeBits(64);
        if (bits == null || no(r)) return -1;
        if (i < 0 || i > now.size(r)) return 1;
        if (now.size(r) + bits.size() > 600) return 2;
        keep(now.copy());
        for (int k = 0; k < bits.size(); k++) now.put(r, i + k, bits.get(k));
        return 0;
    }

    int join(int r, int s) {
        return no(r) || no(s) || r == s ? -1 : kept("join", r, s, 0);
    }

    int split(int r, int i, int s) {
        return no(r) || no(s) || r == s ? -1 : kept("split", r, i, s);
    }

    int letters() {
        return now.letters.size();
    }

    int letter(int i) {
        return i < 0 || i >= now.letters.size() ? -1 : now.letters.get(i);
    }

    int count(int c, int i) {
        if (c < 0 || c > 7 || i < 0 || i > now.letters.size()) return -1;
        return (int) now.letters.subList(0, i).stream().filter(x -> x == c).count();
    }

    int place(int c, int k) {
        List<Integer> at = new ArrayList<>();
        for (int p = 0; p < now.letters.size(); p++) {
            if (now.letters.get(p) == c) at.add(p);
        }
        return k < 0 || k >= at.size() ? -1 : at.get(k);
    }

    int least(int i, int j, int k) {
        if (i < 0 || j > now.letters.size() || i > j) return -1;
        List<Integer> some = now.letters.subList(i, j).stream().sorted().collect(Collectors.toList());
        return k < 0 || k >= some.size() ? -1 : some.get(k);
    }

    /** The letters of a node, by the way down the tree. */
    private List<Integer> lettersOf(int n) {
        if (n == 0) return now.letters;
        int above = (n - 1) / 2;
        int bit = above == 0 ? 4 : 2;
        int way = (n - 1) % 2 == 0 ? 0 : bit;
        return lettersOf(above).stream().filter(c -> (c & bit) == way).collect(Collectors.toList());
    }

    int node(int n, int i) {
        if (n < 0 || n > 6) return -1;
        List<Integer> some = lettersOf(n);
        int bit = n == 0 ? 4 : n < 3 ? 2 : 1;
        return i < 0 || i >= some.size() ? -1 : (some.get(i) & bit) == 0 ? 0 : 1;
    }

    int type(int i, int c) {
        return c < 0 || c > 7 ? -1 : kept("type", i, c, 0);
    }

    int erase(int i, int n) {
        return n < 1 || n > 200 ? -1 : kept("erase", i, n, 0);
    }

    int undo() {
        if (undone.isEmpty()) return -1;
        now = undone.pop();
        return undone.size();
    }

    private int seed;

    private int draw(int n) {
        seed = seed * 1103515245 + 12345;
        return (seed >>> 8) % n;
    }

    int drawn(int n, int from) {
        if (n < 1 || n > 60) return -1;
        seed = from;
        World ahead = now.copy();
        int done = 0;
        for (int k = 0; k < n && !now.rows.isEmpty(); k++) {
            int what = draw(8);
            int r = draw(now.rows.size());
            int i = draw(now.size(r) + 1);
            int why;
            if (what <= 2) {
                why = now.deed("put", r, i, draw(2));
            } else if (what == 3) {
                why = now.deed("cut", r, i, draw(8) + 1);
            } else if (what <= 5) {
                why = now.deed("turn", r, i, draw(40) + 1);
            } else {
                int s = draw(now.rows.size());
                why = s == r ? -1 : what == 6 ? now.deed("join", r, s, 0) : now.deed("split", r, i, s);
            }
            if (why == 0) done++;
        }
        if (done > 0) keep(ahead);
        return done;
    }

    private record Line(String what, int a, int b, int c, int base) {
    }

    private Line readLine(int many) {
        Token t = peek();
        int kind = Arrays.asList("put", "set", "cut", "turn", "join", "split", "type", "erase").indexOf(t.text());
        if (t.sort() != 'w' || kind < 0) throw new Fault(1, t.at());
        if (many == 40) throw new Fault(4, t.at());
        next++;
        int a = kind < 6 ? wantRow(-1) : wantNumber(0, 999);
        int b = kind == 4 ? wantRow(a) : kind == 6 ? wantNumber(0, 7) : kind == 7 ? wantNumber(1, 600) : wantNumber(0, 999);
        int c = kind < 2 ? wantNumber(0, 1) : kind < 4 ? wantNumber(1, 600) : kind == 5 ? wantRow(a) : 0;
        wantSign(";");
        return new Line(t.text(), a, b, c, 10 * kind);
    }

    int book(int lives) {
        if (lives != 0 && lives != 1) return -1000;
        fault = 0;
        read(400);
        List<Line> lines = new ArrayList<>();
        try {
            while (peek().sort() != 'e') lines.add(readLine(lines.size()));
        } catch (Fault f) {
            fault = f.kind;
            return -2 - f.place;
        }
        World ahead = now.copy();
        int why = 0;
        int k = 0;
        while (k < lines.size() && why == 0) {
            Line l = lines.get(k);
            why = now.deed(l.what(), l.a(), l.b(), l.c());
            if (why == 0) k++;
            else why += l.base();
        }
        told = new int[] {why, k, now.all(), now.letters.size()};
        if (lives == 0) now = ahead;
        else if (k > 0) keep(ahead);
        return why == 0 ? -1 : k;
    }

    int told(int what) {
        return what < 0 || what > 3 ? -1 : told[what];
    }

    private Says cond(int depth) {
        Says left = all(depth);
        while (is("or")) {
            next++;
            Says a = left;
            Says b = all(depth);
            left = (w, r) -> a.of(w, r) || b.of(w, r);
        }
        return left;
    }

    private Says all(int depth) {
        Says left = one(depth);
        while (is("and")) {
            next++;
            Says a = left;
            Says b = one(depth);
            left = (w, r) -> a.of(w, r) && b.of(w, r);
        }
        return left;
    }

    private Says one(int depth) {
        Token t = peek();
        boolean starts = Arrays.asList("not", "(", "empty", "even", "like", "begins", "size", "ones", "runs", "leaves", "number")
            .contains(t.text());
        if (!starts) throw new Fault(1, t.at());
        if (ones == 20 || depth == 9) throw new Fault(4, t.at());
        ones++;
        next++;
        switch (t.text()) {
            case "not": {
                Says a = one(depth + 1);
                return (w, r) -> !a.of(w, r);
            }
            case "(": {
                Says a = cond(depth + 1);
                wantSign(")");
                return a;
            }
            case "empty":
                return (w, r) -> w.size(r) == 0;
            case "even":
                return (w, r) -> w.bits(r).stream().mapToInt(b -> b).sum() % 2 == 0;
            case "like": {
                int s = wantRow(-1);
                return (w, r) -> w.bits(r).equals(w.bits(s));
            }
            case "begins": {
                int s = wantRow(-1);
                return (w, r) -> w.size(s) <= w.size(r) && w.bits(r).subList(0, w.size(s)).equals(w.bits(s));
            }
            default:
                return comparison(t.text());
        }
    }

    private Says comparison(String what) {
        Token sign = want('s');
        if (!"<=>".contains(sign.text())) throw new Fault(1, sign.at());
        int n = wantNumber(0, 999);
        return (w, r) -> {
            List<Integer> bits = w.bits(r);
            int value = switch (what) {
                case "size" -> bits.size();
                case "ones" -> bits.stream().mapToInt(b -> b).sum();
                case "runs" -> runLengths(bits, -1).size();
                case "leaves" -> w.rows.get(r).size();
                default -> r;
            };
            return Integer.signum(Integer.compare(value, n)) == "<=>".indexOf(sign.text()) - 1;
        };
    }

    int sentence() {
        fault = 0;
        read(200);
        ones = 0;
        try {
            Says s = cond(1);
            if (peek().sort() != 'e') throw new Fault(1, peek().at());
            says = s;
        } catch (Fault f) {
            fault = f.kind;
            return -1 - f.place;
        }
        return ones;
    }

    int said(int k) {
        if (says == null) return -1;
        List<Integer> such = new ArrayList<>();
        for (int r = 0; r < now.rows.size(); r++) {
            if (says.of(now, r)) such.add(r);
        }
        return k == -1 ? such.size() : k < 0 || k >= such.size() ? -1 : such.get(k);
    }

    boolean image(int k) {
        if (k != 0 && k != 1) return false;
        images[k] = now.copy();
        imageSays[k] = says;
        return true;
    }

    boolean restore(int k) {
        if (k != 0 && k != 1 || images[k] == null) return false;
        now = images[k].copy();
        says = imageSays[k];
        undone.clear();
        return true;
    }

    int total(int what) {
        return switch (what) {
            case 0 -> now.rows.size();
            case 1 -> now.low;
            case 2 -> now.all();
            case 3 -> tape.size();
            default -> -1;
        };
    }
}
