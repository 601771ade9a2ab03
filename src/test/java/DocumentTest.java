/** Runs the tests that stand under sentences of the document, and looks whether any sentence is left without one. */
public final class DocumentTest {
    private DocumentTest() {
    }

    public static void main(String[] args) {
        Check check = new Check();
        Document document = Document.read();
        Sentences[] parts = {
            new BillBoundaries(check, document),
            new AmountBoundaries(check, document),
            new ClosedBoundaries(check, document),
            new TaxBoundaries(check, document),
            new MoneyBoundaries(check, document),
            new TogetherBoundaries(check, document),
            new TermsBoundaries(check, document),
            new FaceSentences(check, document),
            new TermsSentences(check, document),
            new PromiseSentences(check, document),
            new TogetherSentences(check, document),
        };
        for (Sentences part : parts) {
            part.run();
        }
        for (String sentence : document.untested()) {
            check.fail("no test of its own has " + sentence);
        }
        if (!document.isThere()) {
            System.out.println("there is no document to compare the sentences with");
        }
        check.end();
    }
}
