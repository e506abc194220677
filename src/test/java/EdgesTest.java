// Each sentence of the document that tells what is asked for has a test of its own, with what it names: the least
// and the greatest, the first beyond each, what is empty and full, what wraps, and what stands after a refusal.
public final class EdgesTest {
    public static void main(String[] args) {
        TermEdges.all();
        TextEdges.all();
        RuleEdges.all();
        AllRuleEdges.all();
        RowEdges.all();
        HostEdges.all();
        ActEdges.all();
        Sentence.allNamed();
        Due.end("EdgesTest");
    }
}
