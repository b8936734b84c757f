import java.io.IOException;
import java.nio.file.Files;
import java.nio.file.Path;
import java.util.List;
import java.util.regex.Matcher;
import java.util.regex.Pattern;

/** What of LANGUAGE.md can be seen in the source's lines. */
public final class RulesTest {
    private static final String[] NEVER = {"->", "::", "\\bcatch\\b", "\\btry\\b", "\\bfinally\\b", "\\bsynchronized\\b",
        "\\bassert\\b", "\\binstanceof\\b", "\\bvar\\b", "\\.hashCode\\(", "\\.toString\\(", "\\.ordinal\\(", "\\.name\\(\\)",
        "Exact\\(", "\\bSystem\\.(?!arraycopy)", "\\bfloat\\b", "\\bdouble\\b", "\\bprotected\\b", "\\bThread\\b",
        "\\+\\s*\"", "\"\\s*\\+", "while \\(true\\)", "for \\(;;", "\\bstatic \\{"};

    public static void main(String[] args) throws IOException {
        String where = args.length > 0 ? args[0] : "src/main/java/HookedCity.java";
        List<String> lines = Files.readAllLines(Path.of(where));
        int thrown = 0;
        for (int i = 0; i < lines.size(); i++) {
            String line = lines.get(i);
            String code = line.replaceFirst("^\\s*(/\\*\\*.*\\*/|//.*)$", "");
            for (String never : NEVER) {
                Probe.due("line " + (i + 1) + " has " + never, Pattern.compile(never).matcher(code).find(), false);
            }
            Probe.due("line " + (i + 1) + " has 1 to 127 alone", line.matches("[\\x01-\\x7f]*"), true);
            Probe.due("line " + (i + 1) + " is a package's", line.startsWith("package"), false);
            if (line.startsWith("import")) {
                Probe.due(line, line.matches("import java\\.util\\.(Arrays|ArrayList|List|NoSuchElementException);"), true);
            }
            thrown += code.contains("throw new ") ? 1 : 0;
        }
        Probe.due("the one throw that the document has", thrown, 1);
        lengths(lines);
        Probe.finish();
    }

    private static void lengths(List<String> lines) {
        Pattern head = Pattern.compile("^(\\s+)(?!if|for|while|switch|else)[a-zA-Z].*\\(.*\\{$");
        for (int i = 0; i < lines.size(); i++) {
            Matcher method = head.matcher(lines.get(i));
            if (method.find()) {
                int end = i;
                while (end < lines.size() && !lines.get(end).equals(method.group(1) + "}")) {
                    end++;
                }
                Probe.due("too long: " + lines.get(i), end - i > 60, false);
            }
        }
    }
}
