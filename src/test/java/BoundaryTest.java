import java.io.IOException;
import java.nio.file.Files;
import java.nio.file.Path;
import java.util.List;

/** Each sentence of the document that names a boundary has a test of its own here. */
public final class BoundaryTest {
    /** What it is as a whole, headings of calls, and what is not promised name no boundary. */
    private static final List<String> WITHOUT_TEST = List.of("Sets of nodes that are all joined",
            "THE SEARCH.", "Ahead of the calls", "Not promised", "# CliqueSearch");

    public static void main(String[] args) throws IOException {
        Sentences s = new Sentences();
        s.test(new TermBoundaries(s)::all);
        s.test(new NetBoundaries(s)::all);
        s.test(new CliqueBoundaries(s)::all);
        s.test(new ColourBoundaries(s)::all);
        s.test(new SearchBoundaries(s)::all);
        s.test(new CoverBoundaries(s)::all);
        Path file = Path.of("../shared/DOC.md");
        if (Files.isReadable(file)) {
            s.compareWith(new Document(file), WITHOUT_TEST);
        } else {
            // The answers can be tested without it; only what was quoted can't be looked up.
            System.out.println("BoundaryTest: " + file + " is not there to be compared with");
        }
        s.finish();
    }
}
