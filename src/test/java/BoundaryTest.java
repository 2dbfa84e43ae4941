import java.io.IOException;

/** A test of its own for each sentence of the document that names a boundary case. */
public final class BoundaryTest {
    public static void main(String[] args) throws IOException {
        Sentences sentences = new Sentences();
        new TermsBoundaries(sentences).run();
        new ToldBoundaries(sentences).run();
        new CutBoundaries(sentences).run();
        new ShownBoundaries(sentences).run();
        new KeptBoundaries(sentences).run();
        new RefusalBoundaries(sentences).run();
        sentences.end();
    }
}
