import java.io.IOException;
import java.nio.file.Path;

/** Each sentence of the document that names a boundary case, by a test of its own. */
public final class EdgeTest {
    public static void main(String[] args) throws IOException {
        EdgesOfHouses.all();
        EdgesOfTold.all();
        EdgesOfAgreement.all();
        EdgesOfNumbers.all();
        EdgesOfRepeats.all();
        EdgesOfTexts.all();
        EdgesOfSheets.all();
        EdgesOfRefusals.all();
        EdgeCase.holdAgainst(Path.of("../shared/DOC.md"));
        if (!EdgeCase.allHold()) System.exit(1);
    }
}
