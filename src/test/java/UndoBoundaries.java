/** Boundaries of what is undone and drawn: promises 39 and 40. */
final class UndoBoundaries {
    private static final int MIN = Integer.MIN_VALUE;
    private static final int MAX = Integer.MAX_VALUE;

    private UndoBoundaries() {
    }

    static void check() {
        eachDeed();
        notKept();
        eight();
        none();
        drawnNumbers();
        drawnNone();
        drawnAsTold();
        drawnByHand();
        drawnMany();
    }

    static String all(BitRopes x) {
        StringBuilder s = new StringBuilder();
        for (int r = 0; r < x.total(0); r++) {
            s.append(Check.row(x, r)).append(':').append(Check.leaves(x, r)).append('/');
        }
        return s.append(Check.script(x)).toString();
    }

    private interface Deed {
        int on(BitRopes x);
    }

    private static int paste(BitRopes x, int i) {
        Check.bits(x, "101");
        return x.paste(0, i);
    }

    private static void eachDeed() {
        Boundary.says(39, "The latest of put(), set(), cut(), turn(), paste(), join(), split(), type(), erase() that was done, "
            + "drawn() above 0 (not one that did nothing), a BOOK of which some LINE was lived is undone");
        Deed[] deeds = {x -> x.put(0, 0, 1), x -> x.set(0, 0, 0), x -> x.cut(0, 0, 3), x -> x.turn(0, 0, 3), x -> paste(x, 2),
            x -> x.join(0, 2), x -> x.split(0, 1, 1), x -> x.type(0, 7), x -> x.erase(0, 3),
            x -> x.drawn(60, 1) > 0 ? 0 : 1, x -> Check.book(x, "put a 0 1;", 1) + 1,
            x -> Check.book(x, "type 0 0;cut a 0 3;cut a 0 1;", 1) - 2};
        BitRopes x = Boundary.named();
        for (int k = 0; k < deeds.length; k++) {
            BitRopes y = Boundary.named();
            String ahead = all(y);
            Boundary.due("deed " + k, deeds[k].on(y), 0);
            Boundary.due("deed " + k + " does something", all(y).equals(ahead), false);
            Boundary.due("undo() of deed " + k, y.undo(), 0);
            Boundary.same("all behind undo() of deed " + k, all(y), ahead);
            Boundary.due("undo() again", y.undo(), -1);
        }
        x.put(0, 0, 0);
        x.put(0, 0, 0);
        Boundary.due("the latest", x.undo(), 1);
        Boundary.same("the latest", Check.row(x, 0), "0110");
        Check.sentence(x, "size=4");
        x.cut(0, 0, 1);
        Boundary.due("the latest", x.undo(), 1);
        Boundary.due("the SENTENCE stays", x.said(0), 0);
    }

    private static void notKept() {
        Boundary.says(39, "(not one that did nothing)");
        Deed[] refused = {x -> x.put(0, 9, 1), x -> x.put(0, 0, 2), x -> x.set(0, 0, 0), x -> x.set(0, 9, 1), x -> x.cut(0, 0, 5),
            x -> x.cut(0, 0, 0), x -> x.turn(0, 1, 4), x -> x.turn(0, 0, 0), x -> paste(x, 9), x -> x.paste(0, 0), x -> x.join(0, 1),
            x -> x.join(0, 0), x -> x.split(0, 4, 1), x -> x.split(0, 0, 0), x -> x.type(9, 0), x -> x.type(0, 8), x -> x.erase(0, 4),
            x -> x.erase(0, 0), x -> x.drawn(0, 1), x -> x.drawn(61, 1), x -> Check.book(x, "", 1), x -> Check.book(x, "cut a 0 5;", 1),
            x -> Check.book(x, "put a 0 1;", 0), x -> Check.book(x, "put a 0 1", 1), x -> x.book(2), x -> Check.sentence(x, "even"),
            x -> x.image(0) ? 1 : 0, x -> Check.room(x, "row"), x -> x.restore(1) ? 1 : 0, x -> x.seek(0)};
        for (int k = 0; k < refused.length; k++) {
            BitRopes x = Boundary.named();
            x.put(0, 0, 0);
            refused[k].on(x);
            Boundary.due("undo() behind refused " + k, x.undo(), 0);
            Boundary.same("all behind refused " + k, Check.row(x, 0), "110");
        }
    }

    private static void eight() {
        Boundary.says(39, "how many more can be (8 at most are kept)");
        for (int deeds = 1; deeds <= 20; deeds++) {
            BitRopes x = new BitRopes();
            for (int k = 0; k < deeds; k++) {
                x.type(k, k % 8);
            }
            int kept = Math.min(deeds, 8);
            for (int k = kept - 1; k >= 0; k--) {
                Boundary.due("undo() of " + deeds, x.undo(), k);
                Boundary.due("letters() of " + deeds, x.letters(), deeds - kept + k);
            }
            Boundary.due("undo() of " + deeds, x.undo(), -1);
            Boundary.due("letters() of " + deeds, x.letters(), deeds - kept);
        }
        BitRopes x = new BitRopes();
        for (int k = 0; k < 11; k++) {
            x.type(0, 0);
        }
        for (int k = 7; k >= 5; k--) {
            Boundary.due("undo()", x.undo(), k);
        }
        for (int k = 0; k < 4; k++) {
            x.type(0, 1);
        }
        for (int k = 7; k >= 0; k--) {
            Boundary.due("undo() of 5 and 4", x.undo(), k);
        }
        Boundary.due("letters() behind it", x.letters(), 4);
        Boundary.due("undo() behind it", x.undo(), -1);
        x.type(0, 2);
        Boundary.due("undo() of one more", x.undo(), 0);
    }

    private static void none() {
        Boundary.says(39, "NONE: none is.");
        BitRopes x = new BitRopes();
        Boundary.due("a new one", x.undo(), -1);
        Check.room(x, "row a i;");
        Boundary.due("a new ROOM", x.undo(), -1);
        x.put(0, 0, 0);
        Boundary.due("undo()", x.undo(), 0);
        Boundary.due("undo() again", x.undo(), -1);
        Boundary.same("all stays", Check.row(x, 0), "1");
        x.put(0, 0, 0);
        x.image(0);
        x.put(0, 0, 0);
        x.restore(0);
        Boundary.due("behind restore()", x.undo(), -1);
        Boundary.same("all stays", Check.row(x, 0), "01");
    }

    private static void drawnNumbers() {
        Boundary.says(40, "NONE: not as told.");
        BitRopes x = Boundary.named();
        for (int n : new int[] {0, -1, 61, 62, MIN, MAX}) {
            Boundary.due("drawn(" + n + ", 1)", x.drawn(n, 1), -1);
            Boundary.due("drawn(" + n + ", 1) without ROWS", new BitRopes().drawn(n, 1), -1);
        }
        Boundary.due("nothing was done", x.undo(), -1);
        Boundary.says(40, "n (1 to 60) DEEDS DRAWN by a seed: how many were done");
        Boundary.due("1", x.drawn(1, 1) >= 0, true);
        Boundary.due("60", x.drawn(60, 1) > 1, true);
    }

    private static void drawnNone() {
        Boundary.says(Document.TREES, "(no ROWS: nothing is drawn)");
        BitRopes x = Check.with("letters abc;");
        Boundary.due("drawn(1, 1)", x.drawn(1, 1), 0);
        Boundary.due("drawn(60, 1)", x.drawn(60, 1), 0);
        Boundary.same("all stays", all(x), "abc");
        Boundary.due("undo()", x.undo(), -1);
    }

    private static int seed;

    private static int draw(int n) {
        seed = (int) ((seed * 1103515245L + 12345L) & 0xFFFFFFFFL);
        return (int) ((((long) seed) & 0xFFFFFFFFL) >> 8) % n;
    }

    /** One DEED as the document tells it, by the calls of the face: its kind, and 10 more if it was done. */
    private static int deed(BitRopes x) {
        int kind = draw(8);
        int r = draw(x.total(0));
        int i = draw(x.size(r) + 1);
        int why;
        if (kind <= 2) {
            why = x.put(r, i, draw(2));
        } else if (kind == 3) {
            why = x.cut(r, i, draw(8) + 1);
        } else if (kind <= 5) {
            why = x.turn(r, i, draw(40) + 1);
        } else if (kind == 6) {
            why = x.join(r, draw(x.total(0)));
        } else {
            why = x.split(r, i, draw(x.total(0)));
        }
        return why == 0 ? kind + 10 : kind;
    }

    private static void drawnAsTold() {
        Boundary.says(Document.TREES, "DRAWN by a seed x: for each draw of n x becomes x * 1103515245 + 12345 (an int, wrapping), "
            + "the draw is (x >>> 8) % n: each DEED (no ROWS: nothing is drawn): a draw of 8, a draw of all ROWS, of its size and 1: a place i there; "
            + "0, 1, 2: a draw of 2: that is PUT there; 3: a draw of 8 (and 1): so many are CUT from there; "
            + "4, 5: a draw of 40 (and 1): so many are TURNED; 6: a draw of all ROWS: that one JOINS it (its bits come behind those of the first); "
            + "7: a draw of all ROWS: it is SPLIT to that from i on (each, if it can be, and they aren't one ROW twice).");
        String many = Check.manyBits(400);
        String[] rooms = {"row a;", "row a io;", "leaf 4;row a " + Check.manyBits(600) + ";", "row a ioi;row b;",
            "leaf 4;row a " + many + ";row b " + many.substring(0, 300) + ";row c;row d iioo;", "leaf 4;row a ioioooo iii;row b iiooi;row c ii;"};
        int[] hits = new int[20];
        for (String room : rooms) {
            for (int k = 0; k < 120; k++) {
                int from = k == 0 ? MIN : k == 1 ? MAX : k == 2 ? -1 : k < 60 ? k - 3 : -k * 7654321;
                BitRopes x = Check.with(room);
                BitRopes y = Check.with(room);
                seed = from;
                int hit = deed(y);
                hits[hit]++;
                Boundary.due("drawn(1, " + from + ")", x.drawn(1, from), hit / 10);
                Boundary.same("all behind it", all(x), all(y));
                Boundary.due("undo() behind it", x.undo(), hit >= 10 ? 0 : -1);
            }
        }
        for (int kind = 0; kind < 8; kind++) {
            Boundary.due("kind " + kind + " was done", hits[kind + 10] > 0, true);
            Boundary.due("kind " + kind + " could not be", hits[kind] > 0, true);
        }
    }

    private static void drawnByHand() {
        Boundary.says(Document.TREES, "x becomes x * 1103515245 + 12345 (an int, wrapping), the draw is (x >>> 8) % n");
        // Of seed 0 the x are 12345, 3554416254 (as an int below 0), 2802067423, 3596950572 .. : >>> 8: 48, 13884438, 10945575, 14050588.
        BitRopes x = Check.with("row a ii;");
        Boundary.due("drawn(1, 0): kind 0, ROW 0, place 0, bit 0", x.drawn(1, 0), 1);
        Boundary.same("drawn(1, 0)", Check.row(x, 0), "011");
    }

    private static void drawnMany() {
        Boundary.says(40, "n (1 to 60) DEEDS DRAWN by a seed: how many were done");
        for (int from : new int[] {0, 1, -1, MIN, MAX, 1103515245, -12345, 77777777}) {
            for (int n : new int[] {1, 2, 7, 59, 60}) {
                BitRopes x = Check.with("leaf 4;row a ioioooo iii;row b iiooi;row c ii;letters abc;");
                BitRopes y = Check.with("leaf 4;row a ioioooo iii;row b iiooi;row c ii;letters abc;");
                String ahead = all(x);
                int done = 0;
                seed = from;
                for (int k = 0; k < n; k++) {
                    done += deed(y) / 10;
                }
                Boundary.due("drawn(" + n + ", " + from + ")", x.drawn(n, from), done);
                Boundary.same("all behind drawn(" + n + ", " + from + ")", all(x), all(y));
                Boundary.due("undone as one", x.undo(), done > 0 ? 0 : -1);
                Boundary.same("undone as one", all(x), ahead);
            }
        }
    }
}
