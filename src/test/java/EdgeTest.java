/** The document's edges: each test quotes the words that it stands for, and no words are left out. */
public final class EdgeTest {
    public static void main(String[] args) throws Exception {
        Doc doc = new Doc();
        new EdgeWords(doc).run();
        new EdgeRetold(doc).run();
        new EdgeFaults(doc).run();
        new EdgeTold(doc).run();
        new EdgeSettings(doc).run();
        new EdgeDays(doc).run();
        new EdgeRules(doc).run();
        new EdgeMoney(doc).run();
        new EdgeTrips(doc).run();
        new EdgeImages(doc).run();
        doc.checkAllQuoted();
        Kit.end();
    }
}
