/** Runs the tests of the boundary cases, and looks whether the promises have any that is left without a test. */
public final class BoundaryTest {
    private BoundaryTest() {
    }

    public static void main(String[] args) {
        Check check = new Check();
        Document document = Document.read();
        Boundaries[] parts = {
            new BillBoundaries(check, document),
            new AmountBoundaries(check, document),
            new ClosedBoundaries(check, document),
            new TaxBoundaries(check, document),
            new MoneyBoundaries(check, document),
            new TogetherBoundaries(check, document),
            new TermsBoundaries(check, document),
        };
        for (Boundaries part : parts) {
            part.run();
        }
        for (String sentence : document.untested()) {
            check.fail("no test of its own has " + sentence);
        }
        if (!document.isThere()) {
            System.out.println("there is no document to compare the sentences with");
        }
        check.end();
    }
}
