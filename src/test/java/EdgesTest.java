/** The document sentence by sentence, each under its own head: least and greatest numbers and the next ones, empty and full, refusals. */
public final class EdgesTest {
    private EdgesTest() {
    }

    public static void main(String[] args) throws Exception {
        TextEdges.run();
        DeedEdges.run();
        FaceEdges.run();
        CutEdges.run();
        TrayEdges.run();
        Heads.eachPromiseIsTested();
        Nets.end();
    }
}
