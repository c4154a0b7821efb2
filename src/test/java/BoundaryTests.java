import java.io.IOException;

/**
 * For each sentence of the document that names a boundary case a test of its own, named by the promise's number and
 * the sentence, word by word as the document has it (Sayings looks it up). Worked out by hand, like PromiseTests.
 */
public final class BoundaryTests extends Bounds {
    private BoundaryTests() {
    }

    public static void main(String[] args) throws IOException {
        Sayings sayings = new Sayings();
        begin(sayings);
        TapeBounds.all();
        LadderBounds.all();
        RuleBounds.all();
        StateBounds.all();
        HourBounds.all();
        ActBounds.all();
        AskBounds.all();
        WayBounds.all();
        NoteBounds.all();
        KeptBounds.all();
        place("the document");
        for (String piece : sayings.unquoted()) {
            is("no test says \"" + piece + "\"", 0, 1);
        }
        System.out.println("BoundaryTests: " + saidSoFar() + " sentences");
        end("BoundaryTests");
    }
}
