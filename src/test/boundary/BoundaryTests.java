import java.io.IOException;
import java.util.List;

/** For each sentence of the document that names a boundary, a test that comes to it from both sides. */
public final class BoundaryTests {
    private BoundaryTests() {
    }

    public static void main(String[] args) throws IOException {
        List<Boundaries> parts = List.of(new TermsBoundaries(), new BestTurnBoundaries(), new ChangesBoundaries(),
                new TurnBoundaries(), new TextBoundaries(), new LookBoundaries(), new HistoryBoundaries());
        for (Boundaries part : parts) {
            part.tests();
        }
        Sentences.compareWithDocument();
        int wrong = Report.howManyWrong();
        System.out.println(wrong == 0 ? "the boundaries of " + Sentences.howMany() + " sentences hold"
                : wrong + " boundaries do not hold");
        if (wrong != 0) {
            System.exit(1);
        }
    }
}
