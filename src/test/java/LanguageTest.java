import java.io.IOException;
import java.nio.file.Files;
import java.nio.file.Path;
import java.util.List;
import java.util.regex.Matcher;
import java.util.regex.Pattern;

/** What of LANGUAGE.md can be seen from the text of the program. */
public final class LanguageTest {
    private static final String[] FORBIDDEN = {
        "->", "::", "\\btry\\b", "\\bcatch\\b", "\\bfinally\\b", "\\bsynchronized\\b", "\\bassert\\b",
        "\\brecord\\b", "\\bpackage\\b", "\\bObject\\b", "\\bequals\\b", "\\bhashCode\\b", "\\btoString\\b",
        "\\bMath\\.\\w+Exact\\b", "\\bDouble\\b", "\\bLong\\[", "\\bstatic\\s*\\{", "\"\\s*\\+", "\\+\\s*\"",
        "\\bwhile\\s*\\(\\s*true", "for\\s*\\(;;", "\\bSystem\\.(?!arraycopy)", "\\bArrays\\.(?!copyOf|copyOfRange|fill)",
        "\\bMath\\.(?!min|max|abs)", "^import (?!java\\.util\\.(Arrays|ArrayList|List|Iterator);)", "[^\\x00-\\x7f]",
    };
    private static final int LONGEST_METHOD = 60;

    private LanguageTest() {
    }

    public static void main(String[] args) throws IOException {
        Check check = new Check("LanguageTest");
        List<String> lines = Files.readAllLines(Path.of("src/main/java/GyreWatch.java"));
        for (String forbidden : FORBIDDEN) {
            check.text("lines with " + forbidden, "none", linesWith(lines, forbidden));
        }
        check.text("static fields that are not final", "none",
                linesWith(lines, "^\\s+(public |private )?static (?!final)(?!.*\\().*;"));
        check.text("methods that are too long", "none", longMethods(lines));
        check.due("at most twelve classes", 1, classesOf(lines) <= 12 ? 1 : 0);
        check.end();
    }

    private static String linesWith(List<String> lines, String forbidden) {
        Pattern pattern = Pattern.compile(forbidden);
        StringBuilder found = new StringBuilder();
        for (int i = 0; i < lines.size(); i++) {
            String code = lines.get(i).replaceAll("//.*|/\\*\\*.*\\*/", "");
            if (pattern.matcher(code).find()) {
                found.append(' ').append(i + 1);
            }
        }
        return found.length() == 0 ? "none" : found.toString();
    }

    /** A method begins with a line that opens a body and ends with a bracket as far in as its first line. */
    private static String longMethods(List<String> lines) {
        Pattern opening = Pattern.compile("^((?: {4}){1,2})(?!.*\\b(?:class|enum|interface)\\b)\\S.*\\{$");
        StringBuilder found = new StringBuilder();
        for (int i = 0; i < lines.size(); i++) {
            Matcher matcher = opening.matcher(lines.get(i));
            if (matcher.find() && endOf(lines, i, matcher.group(1)) - i > LONGEST_METHOD) {
                found.append(' ').append(i + 1);
            }
        }
        return found.length() == 0 ? "none" : found.toString();
    }

    private static int endOf(List<String> lines, int from, String indent) {
        int end = from + 1;
        while (end < lines.size() && !lines.get(end).startsWith(indent + "}")) {
            end++;
        }
        return end;
    }

    private static int classesOf(List<String> lines) {
        int classes = 0;
        for (String line : lines) {
            if (line.matches(".*\\b(class|enum|interface)\\b.*\\{")) {
                classes++;
            }
        }
        return classes;
    }
}
