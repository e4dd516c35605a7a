import java.io.IOException;
import java.nio.file.Files;
import java.nio.file.Path;
import java.util.ArrayList;
import java.util.List;

/** What DOC.md promises, by promise; 0 are the words ahead of the promises, which speak of every call. */
final class Document {
    static final int PROMISES = 45;
    private final String[] words = new String[PROMISES + 1];

    Document(Path path) throws IOException {
        String all = Files.readString(path);
        words[0] = flat(between(all, "An object is used for", "## The public face") + " " + terms(all));
        for (int k = 1; k <= PROMISES; k++) {
            String next = k < PROMISES ? "## Promise " + (k + 1) + ":" : "## Not promised";
            words[k] = flat(between(all, "## Promise " + k + ":", next).replaceFirst("(?s)^.*?`[^`]*`:", ""));
        }
    }

    /** Without what is only there to set the page: rows of ========, and what the interface's parts are called. */
    private static String terms(String all) {
        return between(all, "## Terms", "## Promise 1:").replaceAll("## Terms|```(text)?", "")
            .replaceAll("======== \\d", "").replaceAll("Ahead of the calls [^-]*---- \\d [^(\n]*", "");
    }

    private static String between(String all, String from, String to) {
        int start = all.indexOf(from);
        int end = start < 0 ? -1 : all.indexOf(to, start);
        return end < 0 ? "" : all.substring(start, end);
    }

    private static String flat(String text) {
        return text.replaceAll("\\s+", " ").trim();
    }

    boolean has(int promise, String quoted) {
        return promise >= 0 && promise <= PROMISES && !quoted.isEmpty() && words[promise].contains(quoted);
    }

    /** What of a promise's words is in none of these. */
    List<String> unquoted(int promise, List<String> quotes) {
        String text = words[promise];
        boolean[] in = new boolean[text.length()];
        for (String quoted : quotes) {
            for (int at = text.indexOf(quoted); at >= 0; at = text.indexOf(quoted, at + 1)) {
                for (int k = at; k < at + quoted.length(); k++) {
                    in[k] = true;
                }
            }
        }
        List<String> left = new ArrayList<>();
        StringBuilder run = new StringBuilder();
        for (int k = 0; k <= text.length(); k++) {
            if (k < text.length() && !in[k]) {
                run.append(text.charAt(k));
            } else {
                if (run.chars().anyMatch(Character::isLetterOrDigit)) {
                    left.add(run.toString().trim());
                }
                run.setLength(0);
            }
        }
        return left;
    }
}
