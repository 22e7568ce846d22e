import java.io.IOException;
import java.nio.file.Files;
import java.nio.file.Path;
import java.util.BitSet;
import java.util.LinkedHashMap;
import java.util.Map;
import java.util.regex.Matcher;
import java.util.regex.Pattern;

/**
 * The document's sentences, each with what is asked of the program for it. A test quotes a sentence (or as
 * much of it as names one case), then asks; what nobody quotes, and what is quoted without a question, counts
 * as wrong, so that no sentence of the Terms or of a promise goes without a test of its own.
 */
final class Sentences {
    interface Act {
        long on(WrappedHands x);
    }

    interface ActWith {
        long on(WrappedHands x, int v);
    }

    interface Scene {
        WrappedHands make();
    }

    private static final Path DOCUMENT = Path.of("../shared/DOC.md");
    private static final Pattern SECTION = Pattern.compile("(?ms)^## (Terms|Promise \\d+)\\b[^\\n]*\\n(.*?)(?=^## |\\z)");
    private static final int PROMISES = 51;

    /** Where the document is not at hand, all is asked as ever, but the quotes are not held against it. */
    private final boolean atHand = Files.isReadable(DOCUMENT);
    private final Expect expect = new Expect("EdgesTest");
    private final Map<String, String> texts = new LinkedHashMap<>();
    private final Map<String, BitSet> quoted = new LinkedHashMap<>();
    private String quote = "";
    private int asked = 1;

    Sentences() throws IOException {
        if (!atHand) {
            System.out.println("EdgesTest: " + DOCUMENT + " is not at hand, so no quote is looked up");
            return;
        }
        Matcher m = SECTION.matcher(Files.readString(DOCUMENT));
        while (m.find()) {
            texts.put(m.group(1), bare(m.group(2)));
            quoted.put(m.group(1), new BitSet());
        }
        expect.due("sections of the document", PROMISES + 1, texts.size());
    }

    /** A section without what heads the interface, the promise's own face, fences and breaks of lines. */
    private static String bare(String section) {
        return section.replaceAll("(?m)^Ahead of the calls .*$", "").replaceAll("(?m)^```\\w*$", "")
                .replaceFirst("^\\s*`[^`]*`: ", "").replaceAll("\\s+", " ").trim();
    }

    /** What is asked from here on is asked for these words of a section. */
    void of(String section, String words) {
        endQuote();
        quote = section + " \"" + words + "\"";
        asked = 0;
        if (atHand) {
            markQuoted(section, words);
        }
    }

    private void markQuoted(String section, String words) {
        String text = texts.getOrDefault(section, "");
        BitSet there = quoted.getOrDefault(section, new BitSet());
        int at = text.indexOf(words);
        while (at >= 0 && there.get(at)) {
            at = text.indexOf(words, at + 1);
        }
        expect.due(quote + " stands there, not quoted yet", 1, at >= 0 ? 1 : 0);
        there.set(Math.max(at, 0), Math.max(at, 0) + words.length());
    }

    void promise(int number, String words) {
        of("Promise " + number, words);
    }

    void terms(String words) {
        of("Terms", words);
    }

    private void endQuote() {
        expect.due(quote + " has a question", 1, asked > 0 ? 1 : 0);
    }

    void due(String call, long want, long got) {
        asked++;
        expect.due(quote + ": " + call, want, got);
    }

    /** The act answers the finding, counts it once, and leaves all else as on a coast that never met it. */
    void refused(Scene scene, int finding, String call, Act act) {
        WrappedHands x = scene.make();
        WrappedHands untouched = scene.make();
        due(call, finding, act.on(x));
        int row = Expect.BEYOND - finding;
        for (int which = -1; which <= 6; which++) {
            int more = which == -1 || which == row ? 1 : 0;
            due(call + ", then status(" + which + ")", untouched.status(which) + more, x.status(which));
        }
        due(call + " leaves all as it was", 1, Whole.of(x).equals(Whole.of(untouched)) ? 1 : 0);
    }

    void refusedWith(int[] values, Scene scene, int finding, String call, ActWith act) {
        for (int v : values) {
            refused(scene, finding, call.replace("?", "" + v), x -> act.on(x, v));
        }
    }

    void close() {
        endQuote();
        for (String section : texts.keySet()) {
            String text = texts.get(section);
            BitSet there = quoted.get(section);
            for (int from = there.nextClearBit(0); from < text.length(); from = there.nextClearBit(from)) {
                int to = there.nextSetBit(from) < 0 ? text.length() : there.nextSetBit(from);
                String rest = text.substring(from, to);
                expect.due(section + ", not quoted: " + rest, 0, rest.matches(".*\\w.*") ? 1 : 0);
                from = to;
            }
        }
        expect.close();
    }
}
