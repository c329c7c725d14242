import java.io.IOException;
import java.nio.file.Path;

/** Each sentence of the document, quoted, with its own checks. Run beside ../shared. */
public final class EdgeTest {
    private EdgeTest() {
    }

    public static void main(String[] args) throws IOException {
        Sentence.read(Path.of("../shared/DOC.md"));
        TermEdges.all();
        SpaceEdges.all();
        ActEdges.all();
        HoldEdges.all();
        StormEdges.all();
        GuessEdges.all();
        GameEdges.all();
        KeptEdges.all();
        Sentence.finish();
        Check.finish();
    }
}
