/**
 * The edges that the document's sentences name (too small, too large, empty, full, a wrap-around, a
 * refused call), sentence by sentence, each with the words that it comes from.
 */
public final class EdgesTest {
    private EdgesTest() {
    }

    public static void main(String[] args) throws Exception {
        Due due = new Due();
        RoomEdges.look(due);
        LawEdges.look(due);
        TextEdges.look(due);
        ChanceEdges.look(due);
        ReasonEdges.look(due);
        WorldEdges.look(due);
        TrialEdges.look(due);
        NightEdges.look(due);
        KeptEdges.look(due);
        if (due.sum() != 0) System.exit(1);
    }
}
