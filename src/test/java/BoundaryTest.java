import java.io.IOException;

/**
 * The cases at the boundaries that the document names: each test bears the part and the words of its sentence, and what is
 * wrong is told with these. "BoundaryTest words" prints the document with [[ ]] round the words that some test bears.
 */
public final class BoundaryTest {
    public static void main(String[] args) throws IOException {
        Due due = new Due();
        Book book = new Book(due);
        new TextBoundaries(book, due).all();
        new FactBoundaries(book, due).all();
        new WhyBoundaries(book, due).all();
        new ActBoundaries(book, due).all();
        new Refusals(book, due).all();
        new Crosswise(book, due).all();
        book.nothingLeftOut();
        if (args.length > 0) {
            System.out.println(book.marked());
        }
        due.end();
    }
}
