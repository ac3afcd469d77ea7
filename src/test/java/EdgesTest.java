import java.util.List;

/** Runs the edges of all promises. */
public final class EdgesTest {
    public static void main(String[] args) {
        List<Edges> all = List.of(new SectionEdges(), new PupilEdges(), new PutEdges(), new SeatingEdges(),
                new OrderEdges(), new TextEdges(), new SheetEdges(), new UndoEdges());
        for (Edges edges : all) {
            edges.run();
        }
        System.out.println(Checks.asked() + " answers asked, " + Checks.wrong() + " are not as due");
        if (Checks.wrong() != 0) {
            System.exit(1);
        }
    }
}
