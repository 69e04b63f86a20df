import java.util.ArrayList;
import java.util.List;

/**
 * Each sentence of the document under its own words: the tests of its edges, and that no sentence of
 * the terms and the promises is without one.
 */
public final class EdgesTest {
    public static void main(String[] args) {
        Checks checks = new Checks("EdgesTest");
        DocText doc = new DocText();
        Edges[] all = {
            new TermsEdges(checks, doc), new PagesEdges(checks, doc), new ShearsEdges(checks, doc),
            new MendingEdges(checks, doc), new ContentEdges(checks, doc)};
        for (Edges edges : all) {
            edges.all();
        }
        for (String section : sections()) {
            String left = doc.unquoted(section);
            checks.hold(section + " has no test for: " + left, left.isEmpty());
        }
        checks.end();
    }

    private static List<String> sections() {
        List<String> names = new ArrayList<>();
        names.add("Terms");
        for (int number = 1; number <= 28; number++) {
            names.add("Promise " + number);
        }
        return names;
    }
}
