import java.util.List;

/** Each sentence of the document that names a boundary has a check of its own, and each sentence is quoted by one. */
public final class BoundariesTest {
    public static void main(String[] args) {
        TapeBoundaries.check();
        TextBoundaries.check();
        RowBoundaries.check();
        DeedBoundaries.check();
        LetterBoundaries.check();
        UndoBoundaries.check();
        BookBoundaries.check();
        List<String> untold = Boundary.DOCUMENT.untold();
        for (String sentence : untold) {
            System.out.println("no test is about " + sentence);
        }
        Boundary.CHECK.due("sentences without a test", untold.size(), 0);
        Boundary.CHECK.end();
    }
}
