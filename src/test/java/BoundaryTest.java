/** The document's boundary cases, sentence by sentence. */
public final class BoundaryTest {
    public static void main(String[] args) {
        Sentences document = new Sentences();
        new StateBounds(document).ask();
        new RunBounds(document).ask();
        new TextBounds(document).ask();
        new NumberBounds(document).ask();
        new ShapeBounds(document).ask();
        document.end();
    }
}
