import java.io.IOException;
import java.nio.charset.StandardCharsets;
import java.nio.file.Files;
import java.nio.file.Path;

/**
 * The document's own words, cut into 'Terms' and its promises. A test quotes the words that it tests; what no test has
 * quoted is told at the end, so that no sentence is left out.
 */
final class Doc {
    static final int TERMS = 0;
    private static final int PROMISES = 39;
    private static final Path PLACE = Path.of("../shared/DOC.md");
    private static final String[] SECTIONS = sections();
    private static final boolean[][] QUOTED = new boolean[PROMISES + 1][];

    private Doc() { }

    private static String[] sections() {
        String[] found = new String[PROMISES + 1];
        if (!Files.exists(PLACE)) {
            return found;
        }
        try {
            String all = Files.readString(PLACE, StandardCharsets.UTF_8);
            found[TERMS] = plain(between(all, "## Terms", "The constants:"));
            for (int i = 1; i <= PROMISES; i++) {
                String next = i == PROMISES ? "## Not promised" : "## Promise " + (i + 1) + ":";
                String promise = between(all, "## Promise " + i + ":", next);
                found[i] = plain(promise.substring(promise.indexOf("`: ") + 3));
            }
        } catch (IOException e) {
            throw new IllegalStateException(e);
        }
        return found;
    }

    private static String between(String all, String from, String to) {
        int start = all.indexOf(from) + from.length();
        return all.substring(start, all.indexOf(to, start));
    }

    private static String plain(String words) {
        return words.replaceAll("```\\w*", "").replaceAll("==== [IV]+\\.", "").replaceAll("\\s+", " ").trim();
    }

    /** These words of a promise (or of TERMS) are tested from here on. */
    static void says(int section, String words) {
        Check.under((section == TERMS ? "Terms: " : "Promise " + section + ": ") + words);
        String text = SECTIONS[section];
        if (text == null) {
            return;
        }
        int at = text.indexOf(words);
        Check.due("the document has these words once", at >= 0 && at == text.lastIndexOf(words), true);
        if (QUOTED[section] == null) {
            QUOTED[section] = new boolean[text.length()];
        }
        for (int i = Math.max(at, 0); at >= 0 && i < at + words.length(); i++) {
            QUOTED[section][i] = true;
        }
    }

    /** What no test has quoted is as wrong as an answer that isn't due. */
    static void allQuoted() {
        Check.under("");
        for (int section = 0; section <= PROMISES; section++) {
            String text = SECTIONS[section];
            if (text == null) {
                System.out.println("the document isn't at " + PLACE + ": its words were not compared");
                return;
            }
            boolean[] quoted = QUOTED[section] == null ? new boolean[text.length()] : QUOTED[section];
            StringBuilder left = new StringBuilder();
            for (int i = 0; i < text.length(); i++) {
                left.append(quoted[i] ? ' ' : text.charAt(i));
            }
            String words = plain(left.toString());
            Check.due("words of section " + section + " that no test quotes: " + words, words.isEmpty(), true);
        }
    }
}
