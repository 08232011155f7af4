import java.io.IOException;
import java.nio.file.Files;
import java.nio.file.Path;
import java.util.List;
import java.util.regex.Matcher;
import java.util.regex.Pattern;

/** The rules of LANGUAGE.md that can be read off the text of the class. It is run from the project's folder. */
public final class LanguageTest {
    private static final Path SOURCE = Path.of("src/main/java/PoloSeason.java");
    private static final String[] NEVER = {
        "\\bimport\\b", "\\bpackage\\b", "\\btry\\b", "\\bcatch\\b", "\\bfinally\\b", "\\bassert\\b", "\\bsynchronized\\b",
        "->", "::", "\\bSystem\\b", "\\bObject\\b", "\\bThread\\b", "Exact\\b", "\\bhashCode\\b", "\\btoString\\b",
        "\\bequals\\b", "\\bprotected\\b", "[^\\x00-\\x7f]", "while \\(true\\)", "static \\{",
    };

    public static void main(String[] args) throws IOException {
        Check check = new Check();
        List<String> lines = Files.readAllLines(SOURCE);
        String code = String.join("\n", lines).replaceAll("(?s)/\\*.*?\\*/", "").replaceAll("//.*", "").replaceAll("\"[^\"\n]*\"", "\"\"");
        for (String word : NEVER) {
            check.yes("never " + word, !Pattern.compile(word).matcher(code).find());
        }
        check.yes("every static field is final", !Pattern.compile("static (?!final|class)\\w+(\\[\\])? \\w+( =|;)").matcher(code).find());
        check.yes("at most twelve classes", occurrences(code, "\\bclass \\w+ \\{") <= 12);
        check.same("what is made: rows and parts in constructors, and exceptions",
                occurrences(code, "\\bnew \\w+") - occurrences(code, "throw new (IllegalArgument|IllegalState|IndexOutOfBounds)Exception\\(\"\"\\);"),
                occurrences(code, "(?m)^ {8,12}\\w+ = new \\w+(\\(\\)|\\[\\w+( \\* \\w+)?\\]);$"));
        methodsStayShort(check, lines);
        check.finish("LanguageTest");
    }

    private static int occurrences(String code, String pattern) {
        Matcher matcher = Pattern.compile(pattern).matcher(code);
        int found = 0;
        while (matcher.find()) {
            found++;
        }
        return found;
    }

    private static void methodsStayShort(Check check, List<String> lines) {
        int start = -1;
        int methods = 0;
        for (int i = 0; i < lines.size(); i++) {
            if (lines.get(i).matches(" {4}( {4})?[^ /*].*\\) (throws .*)?\\{") && !lines.get(i).matches(" +(if|for|while|switch|\\}).*")) {
                start = i;
                methods++;
                String parameters = lines.get(i).replaceAll("^[^(]*\\(|\\).*$", "");
                check.yes("at most seven parameters: " + lines.get(i).trim(), parameters.split(",").length <= 7);
            } else if (start >= 0 && lines.get(i).matches(" {4}( {4})?\\}") && indent(lines.get(i)) == indent(lines.get(start))) {
                check.yes("short: " + lines.get(start).trim(), i - start <= 60);
                start = -1;
            }
        }
        check.yes("the methods are found", methods > 80);
    }

    private static int indent(String line) {
        return line.length() - line.stripLeading().length();
    }
}
