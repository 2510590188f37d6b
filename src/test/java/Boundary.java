/** Answers that are due where the document names a boundary: each check tells the sentence that it is about. */
final class Boundary {
    static final Check CHECK = new Check();
    static final Document DOCUMENT = new Document();
    private static String sentence = "";

    private Boundary() {
    }

    /** The checks behind it are about these words of a part of the document. */
    static void says(String part, String words) {
        DOCUMENT.quote(part, words);
        sentence = part + ", \"" + words + "\": ";
    }

    static void says(int promise, String words) {
        says(Document.promise(promise), words);
    }

    static void due(String call, long got, long want) {
        CHECK.due(sentence + call, got, want);
    }

    static void due(String call, boolean got, boolean want) {
        CHECK.due(sentence + call, got, want);
    }

    static void same(String what, String got, String want) {
        CHECK.same(sentence + what, got, want);
    }

    static void throwsIt(String call, Runnable deed) {
        CHECK.noSuchElement(sentence + call, deed);
    }

    /** A ROOM of which LINES are told, or a place with a kind of FAULT. */
    static void room(String text, int lines) {
        BitRopes x = new BitRopes();
        due("room " + brief(text), Check.room(x, text), lines);
        due("fault of room " + brief(text), x.fault(), 0);
    }

    static void roomFault(String text, int kind, int place) {
        BitRopes x = Check.with("leaf 9;row q ioi;letters hg;");
        due("room " + brief(text), Check.room(x, text), -1 - place);
        due("fault of room " + brief(text), x.fault(), kind);
        due("tape behind room " + brief(text), x.total(3), 0);
        same("what stays of " + brief(text), x.total(0) + Check.row(x, 0) + x.total(1) + Check.script(x), "11019hg");
    }

    /** Rows a (iio), b (no bits), seven (longest name), letters abc. */
    static BitRopes named() {
        return Check.with("leaf 4;row a iio;row b;row abcdefg oi;letters abc;");
    }

    static void book(String text, int answer) {
        BitRopes x = named();
        due("book " + brief(text), Check.book(x, text, 0), answer);
        due("fault of book " + brief(text), x.fault(), 0);
    }

    static void bookFault(String text, int kind, int place) {
        for (int lives = 0; lives <= 1; lives++) {
            BitRopes x = named();
            due("book " + brief(text), Check.book(x, text, lives), -2 - place);
            due("fault of book " + brief(text), x.fault(), kind);
            due("tape behind book " + brief(text), x.total(3), 0);
            due("bits and letters behind book " + brief(text), 10 * x.total(2) + x.letters(), 53);
            due("told(0) behind book " + brief(text), x.told(0), -1);
            due("undo() behind book " + brief(text), x.undo(), -1);
        }
    }

    static void sentence(String text, int ones) {
        BitRopes x = named();
        due("sentence " + brief(text), Check.sentence(x, text), ones);
        due("fault of sentence " + brief(text), x.fault(), 0);
    }

    static void sentenceFault(String text, int kind, int place) {
        BitRopes x = named();
        Check.sentence(x, "size=2");
        due("sentence " + brief(text), Check.sentence(x, text), -1 - place);
        due("fault of sentence " + brief(text), x.fault(), kind);
        due("tape behind sentence " + brief(text), x.total(3), 0);
        due("said(-1) behind sentence " + brief(text), x.said(-1), 1);
        due("said(0) behind sentence " + brief(text), x.said(0), 2);
    }

    private static String brief(String text) {
        String t = text.replace("\n", "\\n");
        return t.length() <= 60 ? "'" + t + "'" : "'" + t.substring(0, 40) + ".." + t.substring(t.length() - 18) + "'";
    }
}
