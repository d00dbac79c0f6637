import java.io.IOException;
import java.nio.file.Files;
import java.nio.file.Path;
import java.util.regex.Matcher;
import java.util.regex.Pattern;

/**
 * Boundary cases by the document's own words: a test names the sentence that it holds the class to.
 *
 * The words must stand in the document, and every word there that tells of a boundary must be named by a test.
 */
final class Edges {
    /** Names the parts ahead of the promises, from 'Terms' on. */
    static final int TERMS = 0;
    private static final Pattern BOUNDARY = Pattern.compile("\\b(BAD|NOT|FULL|STATE|VOID|FAULT)\\b|-1[1-4]\\b"
        + "|\\b\\d+ \\.\\. \\d+|\\bat (most|least|first)\\b|\\bbeyond\\b|\\bnobody\\b|\\bnone\\b|\\bmissing\\b"
        + "|\\blike ones\\b|\\bwrap\\b|\\bempty\\b|\\bstays\\b|\\btoo early\\b|\\bheld within\\b|\\bby 0\\b"
        + "|\\bchanges nothing\\b|\\bno such\\b|\\bunlike\\b|\\bas they are\\b|\\bare kept\\b|\\bcount\\)");

    private final String document;
    private final boolean[] isNamed;
    private final Check check;
    private String words = "";
    private int asked = 0;

    Edges(Check check, String[] args) throws IOException {
        this.check = check;
        document = Files.readString(Path.of(args.length > 0 ? args[0] : ".").resolve("../shared/DOC.md"));
        isNamed = new boolean[document.length()];
    }

    /** What is due from here on is due by these words of a promise, or of the terms. */
    void says(int promise, String sentence) {
        endSentence();
        words = promise + ": " + sentence;
        int at = document.indexOf(sentence, beginOf(promise));
        check.due("\"" + words + "\" stands in the document",
            at >= 0 && at + sentence.length() <= endOf(promise) ? 1 : 0, 1);
        for (int i = at; at >= 0 && i < at + sentence.length(); i++) {
            isNamed[i] = true;
        }
        asked = 0;
    }

    void due(String call, long got, long want) {
        asked++;
        check.due("\"" + words + "\": " + call, got, want);
    }

    /** One kind of call, once for each of the numbers that it is told. */
    void dueEach(String calls, long want, long... got) {
        for (int i = 0; i < got.length; i++) {
            due(calls + " [" + i + "]", got[i], want);
        }
    }

    void dueAll(String calls, long[] got, long... want) {
        asked++;
        check.dueAll("\"" + words + "\": " + calls, got, want);
    }

    void dueSame(String call, String before, GloveRegret x) {
        due(call + " changes nothing", before.equals(Check.seen(x)) ? 1 : 0, 1);
    }

    /** Looks for words of boundaries that no test has named. */
    void end() {
        endSentence();
        Matcher boundaries = BOUNDARY.matcher(document);
        int from = document.indexOf("## Terms");
        for (int at = from; boundaries.find(at) && boundaries.start() < endOf(42); at = boundaries.end()) {
            int start = boundaries.start();
            boolean isTitle = document.startsWith("## ", document.lastIndexOf('\n', start) + 1);
            if (!isNamed[start] && !isTitle) {
                String around = document.substring(Math.max(0, start - 40), Math.min(document.length(), start + 40));
                check.due("no test names \"" + boundaries.group() + "\" in \"" + around.replace('\n', ' ') + "\"", 0,
                    1);
            }
        }
    }

    private void endSentence() {
        if (!words.isEmpty()) {
            check.due("\"" + words + "\" is asked for", asked > 0 ? 1 : 0, 1);
        }
    }

    private int beginOf(int promise) {
        return document.indexOf(promise == TERMS ? "## Terms" : "## Promise " + promise + ": ");
    }

    private int endOf(int promise) {
        return promise == 42 ? document.indexOf("## Not promised") : beginOf(promise + 1);
    }
}
