import java.io.IOException;
import java.nio.file.Path;

/** Each sentence of the document that names a boundary case, with a test of its own; run from the project's folder. */
public final class EdgesTest {
    public static void main(String[] args) throws IOException {
        Sentences doc = Sentences.of(Path.of("../shared/DOC.md"));
        new TermsEdges(doc).run();
        new RefusedEdges(doc).run();
        new LandEdges(doc).run();
        new KnightEdges(doc).run();
        new PadEdges(doc).run();
        new ActEdges(doc).run();
        new ReasonEdges(doc).run();
        new CourtEdges(doc).run();
        new RoundEdges(doc).run();
        new ReckoningEdges(doc).run();
        new ScarEdges(doc).run();
        new ImageEdges(doc).run();
        doc.end();
    }
}
