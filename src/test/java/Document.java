import java.io.IOException;
import java.nio.file.Files;
import java.nio.file.Path;
import java.util.ArrayList;
import java.util.List;

/** The document, so that a test that quotes a sentence quotes one that stands there. */
final class Document {
    private static final String RAW = read();
    private static final String TEXT = plain(RAW);

    private static String read() {
        Path path = Path.of(System.getProperty("doc", "../shared/DOC.md"));
        try {
            return Files.readString(path);
        } catch (IOException e) {
            /* Only quotes need it: the answers are due without it, too. */
            return "";
        }
    }

    private static String plain(String text) {
        return text.replace("`", "").replaceAll("\\s+", " ");
    }

    private static String between(String from, String to) {
        int start = TEXT.indexOf(from);
        int end = start < 0 ? -1 : TEXT.indexOf(to, start + from.length());
        return start < 0 ? "" : TEXT.substring(start, end < 0 ? TEXT.length() : end);
    }

    boolean hasTerm(String words) {
        return TEXT.isEmpty() || between("## Terms", "## Promise").contains(plain(words));
    }

    boolean hasInPromise(int number, String words) {
        return TEXT.isEmpty() || between("## Promise " + number + ":", "## ").contains(plain(words));
    }

    /** The public face as it is written there, a member each; empty without the document. */
    List<String> face() {
        List<String> members = new ArrayList<>();
        for (String line : RAW.split("\n")) {
            if (line.startsWith("    public ")) {
                members.add(line.trim());
            }
        }
        return members;
    }

    /** The names of its methods. */
    List<String> calls() {
        List<String> names = new ArrayList<>();
        for (String member : face()) {
            String[] words = member.replaceAll("\\(.*", "").split(" ");
            if (words.length == 3 && member.contains("(")) {
                names.add(words[2]);
            }
        }
        return names;
    }
}
