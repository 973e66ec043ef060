import java.io.IOException;

/**
 * Each sentence of the document has a test of its own, which quotes it: the last number that is taken and the first
 * that is refused at either end, the least and the greatest int and long, empty and full, what a refused call leaves as
 * it was, and which exception comes first.
 */
public final class EdgesTest extends Checks {
    public static void main(String[] args) throws IOException {
        RelationEdges.check();
        OperationEdges.check();
        TemplateEdges.check();
        FormulaEdges.check();
        InstanceEdges.check();
        CallEdges.check();
        due("quotes and sentences that differ", String.join("\n", Document.differences()), "");
        end();
    }
}
