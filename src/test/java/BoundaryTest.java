import java.io.IOException;
import java.nio.file.Path;
import java.util.List;

/** Each sentence of the document that names a boundary has a test of its own here. */
public final class BoundaryTest {
    /** What it is as a whole, headings of calls, and what is not promised name no boundary. */
    private static final List<String> WITHOUT_TEST = List.of("Sets of nodes that are all joined",
            "THE SEARCH.", "Ahead of the calls", "Not promised", "# CliqueSearch");

    public static void main(String[] args) throws IOException {
        Sentences s = new Sentences();
        new TermBoundaries(s).all();
        new NetBoundaries(s).all();
        new CliqueBoundaries(s).all();
        new ColourBoundaries(s).all();
        new SearchBoundaries(s).all();
        new CoverBoundaries(s).all();
        s.compareWith(new Document(Path.of("../shared/DOC.md")), WITHOUT_TEST);
        s.finish();
    }
}
