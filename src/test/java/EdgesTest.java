import java.io.IOException;

/**
 * The edges that the document names, sentence by sentence: the last that is taken and the first that
 * is not, empty and full, what wraps around, and what refused calls leave as it was. Every sentence
 * of the Terms and of the Promises is quoted by what looks at it, and none is left out.
 */
public final class EdgesTest {
    public static void main(String[] args) throws IOException {
        Due due = new Due("EdgesTest");
        Doc doc = new Doc();
        Edges edges = new Edges(due, doc);
        due.holds("the document has other sections than it had", !doc.isHere() || doc.size() == 28);
        RefusalEdges.look(edges);
        PeopleEdges.look(edges);
        ActEdges.look(edges);
        SumEdges.look(edges);
        Promises1To13Edges.look(edges);
        Promises14To26Edges.look(edges);
        for (String words : doc.leftOut()) {
            due.holds("no test quotes " + words, false);
        }
        due.end();
    }
}
