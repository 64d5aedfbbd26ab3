import java.io.IOException;
import java.nio.file.Files;
import java.nio.file.Path;
import java.util.List;
import java.util.regex.Matcher;
import java.util.regex.Pattern;

/** What can be seen of LANGUAGE.md in the class's text; it is run from the project's folder. */
public final class LanguageTest {
    private static final Checks CHECKS = new Checks("LanguageTest");
    private static final List<String> REFUSED = List.of("->", "::", "\\bfinally\\b", "\\bsynchronized\\b", "\\bassert\\b", "\\bcatch\\b", "@",
        "Exact\\(", "\\bpackage\\b", "\\bdouble\\b", "\\bfloat\\b", "\\bprotected\\b", "\\bstatic \\{", "\\bString\\[\\]", "hashCode|toString",
        "System\\.(?!arraycopy)", "\\bvar\\b", "[^\\x00-\\x7f]");
    private static final Pattern METHOD = Pattern.compile("^ {4,8}(?! )[^=;]*\\(([^()]*)\\)( throws \\w+)? \\{$");

    private LanguageTest() {
    }

    public static void main(String[] args) throws IOException {
        String text = Files.readString(Path.of("src/main/java/NightRound.java"));
        for (String refused : REFUSED) {
            Matcher m = Pattern.compile(refused).matcher(text);
            CHECKS.due("found " + refused, m.find(), false);
        }
        for (String line : text.split("\n")) {
            if (line.startsWith("import ")) {
                CHECKS.due(line, line.matches("import java\\.util\\.(Arrays|NoSuchElementException);"), true);
            }
        }
        CHECKS.due("classes, at most 12", text.split("\\bclass \\w+ \\{").length - 1 <= 12, true);
        methods(text.split("\n"));
        making(text.split("\n"));
        CHECKS.end();
    }

    private static void methods(String[] lines) {
        for (int i = 0; i < lines.length; i++) {
            Matcher m = METHOD.matcher(lines[i]);
            if (m.matches()) {
                String indent = lines[i].substring(0, lines[i].indexOf(lines[i].trim()));
                int end = i;
                while (end + 1 < lines.length && !lines[end].equals(indent + "}")) {
                    end++;
                }
                CHECKS.due("lines of " + lines[i].trim(), end - i <= 60, true);
                CHECKS.due("parameters of " + lines[i].trim(), m.group(1).split(",").length <= 7, true);
            }
        }
    }

    /* No call makes anything: all rows are fields of what the constructor makes. */
    private static void making(String[] lines) {
        boolean isMaking = false;
        for (String line : lines) {
            if (line.equals("    public NightRound() {")) {
                isMaking = true;
            } else if (line.equals("    }")) {
                isMaking = false;
            }
            if (line.matches(".*\\bnew \\w+[(\\[].*")) {
                boolean isField = line.matches(" {8}(private )?(final )?[\\w\\[\\]]+ \\w+ = new .*;");
                CHECKS.due(line.trim(), isMaking || isField || line.contains("throw new NoSuchElementException("), true);
            }
        }
    }
}
