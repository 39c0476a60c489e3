import java.io.IOException;
import java.nio.file.Files;
import java.nio.file.Path;

/** Each sentence of the document that names an edge, with the calls on both sides of it. */
final class EdgesTest {
    public static void main(String[] args) throws IOException {
        Doc.read();
        TapeEdges.all();
        TextEdges.all();
        FloorEdges.all();
        ProgramEdges.all();
        CellEdges.all();
        CrackEdges.all();
        interfaceHeads();
        Doc.finish();
        Check.finish("EdgesTest");
    }

    /** The heads that the interface has ahead of its groups of calls, as comments. */
    private static void interfaceHeads() throws IOException {
        String source = Files.readString(Path.of("src/main/java/MarbleFloor.java"));
        String[][] groups = {
            {"floors", "floor", "fault", "step", "out", "odd", "cycle", "order", "apart", "least", "lay", "roll", "chain"},
            {"programs", "program", "let", "value", "run", "trouble"},
            {"cells", "table", "part", "ball", "cell", "beat", "back", "round"},
            {"trails", "trail", "move"},
            {"cracks", "watch", "see", "right", "fit", "look", "count"}};
        int end = source.length();
        for (int g = groups.length - 1; g >= 0; g--) {
            StringBuilder calls = new StringBuilder();
            int head = source.indexOf("// ---- " + groups[g][0]);
            for (int i = 1; i < groups[g].length; i++) {
                calls.append(i == 1 ? "`" : ", `").append(groups[g][i]).append('`');
                int at = source.indexOf(" " + groups[g][i] + "(");
                Check.due(groups[g][i] + " stands below its head", head >= 0 && at > head && at < end ? 1 : 0, 1);
            }
            Doc.terms("Ahead of the calls " + calls + " the interface says: ---- " + groups[g][0] + ".");
            end = head;
        }
    }
}
