import java.io.IOException;
import java.nio.file.Files;
import java.nio.file.Path;

/** The words of DOC.md: section 0 has the Terms and how often an object is used, the others a promise each. */
final class Document {
    static final int PROMISES = 33;
    private final String[] sections = new String[PROMISES + 1];
    /** Which of these words a test quotes. */
    private final boolean[][] quoted = new boolean[PROMISES + 1][];

    Document(Path file) throws IOException {
        String all = Files.readString(file);
        sections[0] = plain(between(all, "==== I.", "## The public face") + between(all, "## Terms", "## Promise 1:"));
        for (int i = 1; i <= PROMISES; i++) {
            String last = i == PROMISES ? "## Not promised" : "## Promise " + (i + 1) + ":";
            String text = between(all, "## Promise " + i + ":", last);
            // What stands ahead is the heading's name and the call's face.
            sections[i] = plain(text.substring(text.indexOf("`: ") + 3));
        }
        for (int i = 0; i <= PROMISES; i++) {
            quoted[i] = new boolean[sections[i].length()];
        }
    }

    private static String between(String text, String begin, String end) {
        int from = text.indexOf(begin);
        int to = text.indexOf(end, from);
        if (from < 0 || to < 0) {
            throw new IllegalStateException("the document has no '" + begin + "' ahead of '" + end + "'");
        }
        return text.substring(from + begin.length(), to);
    }

    private static String plain(String text) {
        return text.replaceAll("```\\w*|==== I+\\.", " ").replaceAll("\\s+", " ").trim();
    }

    /** Marks a sentence of a promise, or else of the Terms: null, or what is wrong with it. */
    String quote(int promise, String says) {
        int section = sections[promise].contains(says) ? promise : 0;
        int at = sections[section].indexOf(says);
        if (at < 0) {
            return "the document does not say '" + says + "'";
        }
        if (sections[section].indexOf(says, at + 1) >= 0) {
            return "the document says '" + says + "' more than once";
        }
        for (int i = at; i < at + says.length(); i++) {
            quoted[section][i] = true;
        }
        return null;
    }

    /** What no test quotes of a section; signs alone need no test. */
    String rest(int section) {
        StringBuilder out = new StringBuilder();
        String text = sections[section];
        for (int i = 0; i < text.length(); i++) {
            boolean silent = quoted[section][i] || !Character.isLetterOrDigit(text.charAt(i));
            if (!silent) {
                out.append(text.charAt(i));
            } else if (out.length() > 0 && out.charAt(out.length() - 1) != ' ') {
                out.append(' ');
            }
        }
        return out.toString().trim();
    }
}
