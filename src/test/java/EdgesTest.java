import java.io.IOException;

/** The edges that the document names, sentence by sentence: see Edges for what a test is. */
final class EdgesTest {
    public static void main(String[] args) throws IOException {
        EdgesOfTerms.all();
        EdgesOfTexts.all();
        EdgesOfClosing.all();
        EdgesOfDays.all();
        EdgesOfYears.all();
        EdgesOfRefusals.all();
        if (args.length > 0 && args[0].equals("list")) Edges.tell();
        Edges.end();
    }
}
