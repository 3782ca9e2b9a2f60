import java.io.IOException;
import java.nio.charset.StandardCharsets;
import java.nio.file.Files;
import java.nio.file.Path;
import java.util.LinkedHashMap;
import java.util.Map;
import java.util.regex.Matcher;
import java.util.regex.Pattern;

/**
 * Which sentence of the document a test is of. At the end: each one told stands in
 * the document, something was looked at for it, and no boundary is left without one.
 */
final class Sentences {
    /** What makes a sentence one that names a boundary case. */
    private static final Pattern BOUNDARY = Pattern.compile("\\d+ \\.\\. \\d+|\\.\\. 11 |\\bat (most|least|first|its)\\b|\\bnone\\b|\\bNONE\\b"
        + "|\\bBAD\\b|\\bNO\\b|\\bFULL\\b|\\bor (more|less)\\b|\\babove\\b|\\bbeyond\\b|-\\d+|\\btoo\\b|\\bcut\\b|\\b(fewest|least|greatest)\\b"
        + "|\\bleft over\\b|\\bnothing\\b|\\bempty\\b|\\bonce\\b|\\bonly\\b|\\belse\\b|\\bno \\w+");

    private static final Map<String, Integer> looked = new LinkedHashMap<>();
    private static String now = null;
    private static int before = 0;

    private Sentences() {
    }

    /** What is looked at from here on is of this sentence. */
    static void at(String sentence) {
        close();
        now = sentence;
        before = Check.calls();
    }

    private static void close() {
        if (now != null) {
            looked.merge(now, Check.calls() - before, Integer::sum);
        }
        now = null;
    }

    static void holdAgainst(String path) throws IOException {
        close();
        String doc = Files.readString(Path.of(path), StandardCharsets.UTF_8).replaceAll("\\s+", " ");
        boolean[] told = new boolean[doc.length()];
        for (Map.Entry<String, Integer> one : looked.entrySet()) {
            String sentence = one.getKey();
            Check.holds("it stands in the document: " + sentence, doc.contains(sentence));
            Check.holds("it is looked at: " + sentence, one.getValue() > 0);
            for (int from = doc.indexOf(sentence); from >= 0; from = doc.indexOf(sentence, from + 1)) {
                for (int i = 0; i < sentence.length(); i++) {
                    told[from + i] = true;
                }
            }
        }
        Matcher boundary = BOUNDARY.matcher(doc);
        int end = doc.indexOf("## Not promised");
        boundary.region(Math.max(doc.indexOf("## Terms"), 0), end < 0 ? doc.length() : end);
        while (boundary.find()) {
            String around = doc.substring(Math.max(boundary.start() - 30, 0), Math.min(boundary.end() + 30, doc.length()));
            Check.holds("it has a test: .." + around + "..", told[boundary.start()]);
        }
        System.out.println("  " + looked.size() + " sentences");
    }
}
