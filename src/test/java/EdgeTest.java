/** The document's edges: each test quotes the words that it stands for, and no words are left out. */
public final class EdgeTest {
    public static void main(String[] args) throws Exception {
        Doc doc = new Doc();
        new EdgeWords(doc).run();
        new EdgeFaults(doc).run();
        new EdgeTold(doc).run();
        new EdgeSettings(doc).run();
        Kit.end();
    }
}
