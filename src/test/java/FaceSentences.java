import java.io.IOException;
import java.nio.file.Files;
import java.nio.file.Path;

/** What the document says ahead of its terms, and above each promise: the face, compared with the program's text. */
final class FaceSentences extends Sentences {
    private static final Path PROGRAM = Path.of("src", "main", "java", "Billwright.java");
    private static final int PROMISES = 37;

    FaceSentences(Check check, Document document) {
        super(check, document);
    }

    @Override
    void run() {
        String program = programInOneLine();
        face(program);
        headsOfPromises(program);
        asksNothing();
    }

    /** Signatures may be broken into lines there. */
    private static String programInOneLine() {
        try {
            return Files.readString(PROGRAM).replaceAll("\\s+", " ");
        } catch (IOException e) {
            throw new IllegalStateException("the program can't be read", e);
        }
    }

    private void face(String program) {
        section("The public face");
        holds("```java public final class Billwright { public Billwright();", x -> {
            due("the class", true, program.contains("public final class Billwright { "));
            due("the constructor", true, program.contains(" public Billwright() { "));
        });
        for (String sentence : sentences("The public face")) {
            if (sentence.startsWith("public ")) {
                holds(sentence, x -> due("the call", true, program.contains(sentence.replace(";", " { "))));
            }
        }
    }

    private void headsOfPromises(String program) {
        for (int number = 1; number <= PROMISES; number++) {
            promise(number);
            for (String sentence : sentences("Promise " + number + ":")) {
                if (sentence.startsWith("`")) {
                    String call = "public " + sentence.replaceFirst("^`(.*)`:$", "$1") + " { ";
                    holds(sentence, x -> due("the call", true, program.contains(call)));
                }
            }
        }
    }

    /** Sentences that leave something free, or tell of others. */
    private void asksNothing() {
        section("What it is");
        says("Bills that add up: the library's own BigDecimal and ArrayList, driven by their documented behaviour"
                + " alone.");
        says("what later calls answer is free.");
        section("The public face");
        says("} ```");
        section("Terms");
        says("The class is not thread-safe.");
        String[] calls = {
            "`cutBy`, `way`, `line`, `rate`, `remove`, `move`, `sort`, `split`, `copy`, `lines`, `isSame`",
            "`exact`, `whole`, `total`, `alone`, `byRests`, `carried`, `rank`, `raised`, `gap`, `off`",
            "`close`, `told`, `correct`, `open`", "`onTop`, `within`, `undone`, `redone`",
            "`abroad`, `home`, `bound`", "`share`, `raisedShare`, `checksum`, `isSound`",
        };
        String[] names = {"bills", "amounts", "closed bills", "taxes", "another money", "all of them"};
        for (int i = 0; i < calls.length; i++) {
            says("Ahead of the calls " + calls[i] + " the interface says: " + names[i] + ".");
        }
        for (String title : new String[] {"Theorem.", "Money.", "Taxes.", "Another money:", "Exceptions."}) {
            says(title);
        }
        section("Not promised");
        says("How the state is held inside the object is free, as are the speed of each call, the text of toString and"
                + " the behaviour of equals and hashCode.");
        says("Use of one object from several threads at once is not promised to be safe.");
        says("Nothing is promised beyond the answers and state changes described above, and nothing about an object"
                + " after its 512th call.");
    }
}
