import java.nio.file.Files;
import java.nio.file.Path;

/** A test of its own for each sentence of the document that names a boundary; no sentence is left out. */
public final class BoundariesTest {
    private static final Path DOCUMENT = Path.of("../shared/DOC.md");

    public static void main(String[] args) throws Exception {
        Checks checks = new Checks();
        Sentences sentences = new Sentences(checks, Files.readString(DOCUMENT));
        Boundaries[] parts = {new TermBoundaries(checks), new ChangeBoundaries(checks), new DoorBoundaries(checks),
            new PhoneBoundaries(checks), new AuditBoundaries(checks), new BreachBoundaries(checks)};
        for (Boundaries part : parts) {
            part.all(sentences);
        }
        sentences.end();
        checks.end();
    }
}
