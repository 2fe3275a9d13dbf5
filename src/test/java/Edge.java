import java.util.BitSet;
import java.util.Map;
import java.util.TreeMap;

/** A test for each sentence of the document: what it quotes must stand there, and no sentence may lack a quote. */
final class Edge {
    private static final Map<Integer, String> PARTS = Doc.parts();
    private static final Map<Integer, BitSet> QUOTED = new TreeMap<>();

    private Edge() {
    }

    /** Part 0 is Terms, others are promises. Words that are skipped within a quote are told by " | ". */
    static void of(int part, String quote, Runnable test) {
        Check.about((part == 0 ? "Terms" : "Promise " + part) + ": " + quote);
        markQuoted(part, quote);
        int before = Check.made();
        test.run();
        Check.that("there is a test", Check.made() > before);
        Check.about("");
    }

    private static void markQuoted(int part, String quote) {
        if (PARTS.isEmpty()) {
            return;
        }
        String text = PARTS.getOrDefault(part, "");
        int from = 0;
        for (String words : quote.split(" \\| ")) {
            int at = text.indexOf(words, from);
            Check.that("the document says '" + words + "'", at >= 0);
            if (at >= 0) {
                QUOTED.computeIfAbsent(part, p -> new BitSet()).set(at, at + words.length());
                from = at + words.length();
            }
        }
    }

    /** The end of a test that has quoted parts from .. to whole. */
    static void end(int from, int to) {
        for (int part = from; part <= to && !PARTS.isEmpty(); part++) {
            lookForUnquoted(part);
        }
        Check.end();
    }

    private static void lookForUnquoted(int part) {
        String text = PARTS.getOrDefault(part, "");
        Check.that("the document has part " + part, !text.isEmpty());
        BitSet quoted = QUOTED.getOrDefault(part, new BitSet());
        for (int i = 0; i < text.length(); i++) {
            if (Character.isLetterOrDigit(text.charAt(i)) && !quoted.get(i)) {
                int end = Math.min(text.length(), i + 60);
                Check.that("part " + part + " has a test of '" + text.substring(i, end) + "'", false);
                i = Math.max(i, quoted.nextSetBit(i) < 0 ? text.length() : quoted.nextSetBit(i));
            }
        }
    }
}
