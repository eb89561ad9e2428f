/**
 * A test of its own for each sentence of the document's Description and
 * promises; a fault is told with the promise and the sentence.
 */
public final class Boundaries {
    private Boundaries() {
    }

    public static void main(String[] args) {
        testAll();
        Sentences.nothingIsLeftOut();
        Sentences.end();
    }

    static void testAll() {
        DescriptionSentences.test();
        GraphSentences.test();
        DeckSentences.test();
    }
}
