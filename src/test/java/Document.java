import java.io.IOException;
import java.nio.file.Files;
import java.nio.file.Path;
import java.util.ArrayList;
import java.util.BitSet;
import java.util.HashMap;
import java.util.LinkedHashMap;
import java.util.List;
import java.util.Map;

/**
 * The document, section by section, and which of its sentences have been tested. A paragraph or a point of a list is
 * a block, and stands on one line here. A sentence ends with a point, a semicolon or a colon; a point of a list is one.
 */
final class Document {
    private static final Path PLACE = Path.of("..", "shared", "DOC.md");

    private final Map<String, List<String>> sections = new LinkedHashMap<>();
    /** For each block, with its section ahead of it, the letters that some test quotes. */
    private final Map<String, BitSet> quoted = new HashMap<>();

    /** Without sections if there is no document where the project stands. */
    static Document read() {
        Document document = new Document();
        if (!Files.isReadable(PLACE)) {
            return document;
        }
        try {
            document.take(Files.readAllLines(PLACE));
        } catch (IOException e) {
            throw new IllegalStateException("the document is there, but can't be read", e);
        }
        return document;
    }

    private void take(List<String> lines) {
        List<String> blocks = new ArrayList<>();
        boolean goesOn = false;
        for (String line : lines) {
            if (line.startsWith("#")) {
                blocks = new ArrayList<>();
                sections.put(line.replaceFirst("#+ ", ""), blocks);
                goesOn = false;
            } else if (goesOn && !line.isBlank() && !line.startsWith("- ")) {
                int last = blocks.size() - 1;
                blocks.set(last, blocks.get(last) + " " + line.strip());
            } else if (!line.isBlank()) {
                blocks.add(line.strip());
                goesOn = true;
            } else {
                goesOn = false;
            }
        }
    }

    boolean isThere() {
        return !sections.isEmpty();
    }

    /** Looks whether the section whose heading begins so says this, and keeps in mind that this is tested. */
    boolean isSaid(String heading, String text) {
        boolean isSaid = false;
        for (String section : sections.keySet()) {
            for (String block : sections.get(section)) {
                int start = block.indexOf(text);
                if (section.startsWith(heading) && start >= 0) {
                    quotedOf(section, block).set(start, start + text.length());
                    isSaid = true;
                }
            }
        }
        return isSaid;
    }

    private BitSet quotedOf(String section, String block) {
        return quoted.computeIfAbsent(section + ": " + block, key -> new BitSet());
    }

    private static String[] sentencesOf(String block) {
        return block.startsWith("- ") ? new String[] {block} : block.split("(?<=[.;:]) ");
    }

    /** The sentences of the section whose heading begins so. */
    List<String> sentences(String heading) {
        List<String> sentences = new ArrayList<>();
        for (String section : sections.keySet()) {
            for (String block : sections.get(section)) {
                if (section.startsWith(heading)) {
                    sentences.addAll(List.of(sentencesOf(block)));
                }
            }
        }
        return sentences;
    }

    /** All sentences, from the first line on, of which a word is in no quotation. */
    List<String> untested() {
        List<String> untested = new ArrayList<>();
        for (String section : sections.keySet()) {
            for (String block : sections.get(section)) {
                int from = 0;
                for (String sentence : sentencesOf(block)) {
                    int to = from + sentence.length();
                    if (hasUnquoted(block, quotedOf(section, block), from, to)) {
                        untested.add(section + ": " + sentence);
                    }
                    from = to + " ".length();
                }
            }
        }
        return untested;
    }

    /** The signs that mark up the text need no quotation. */
    private static boolean hasUnquoted(String block, BitSet quoted, int from, int to) {
        for (int i = from; i < to; i++) {
            if (Character.isLetterOrDigit(block.charAt(i)) && !quoted.get(i)) {
                return true;
            }
        }
        return false;
    }
}
