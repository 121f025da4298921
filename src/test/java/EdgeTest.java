import java.io.IOException;

/** Each sentence of the document that names a boundary case: at the edge, one below, one above, at nothing, at the most. */
public final class EdgeTest {
    private EdgeTest() {
    }

    public static void main(String[] args) throws IOException {
        Due due = new Due();
        EdgesOfTape.run(due);
        EdgesOfTexts.run(due);
        EdgesOfStones.run(due);
        EdgesOfLines.run(due);
        EdgesOfWords.run(due);
        EdgesOfLogs.run(due);
        EdgesOfRefusals.run(due);
        EdgesOfOrder.run(due);
        int wrong = due.wrongs();
        if (wrong > 0) {
            System.out.println(wrong + " answers are not as due");
            System.exit(1);
        }
        System.out.println("EdgeTest: every sentence holds at its edges");
    }
}
