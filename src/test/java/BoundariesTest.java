import java.io.IOException;
import java.nio.file.Path;

/**
 * The boundary cases of the document, sentence by sentence, held against ../shared/DOC.md; told the word "list", it
 * prints the sentences as they are checked.
 */
public final class BoundariesTest {
    public static void main(String[] args) throws IOException {
        Sentences s = new Sentences("BoundariesTest", Path.of("../shared/DOC.md"), args.length > 0 && args[0].equals("list"));
        new TapeBoundaries(s).all();
        new RulesBoundaries(s).all();
        new BookBoundaries(s).all();
        new AskBoundaries(s).all();
        new ListBoundaries(s).all();
        new HandBoundaries(s).all();
        new SlotBoundaries(s).all();
        s.end();
    }
}
