import java.io.IOException;
import java.lang.reflect.Method;
import java.lang.reflect.Modifier;
import java.nio.file.Files;
import java.nio.file.Path;
import java.util.HashMap;
import java.util.List;
import java.util.Map;
import java.util.Set;
import java.util.TreeSet;
import java.util.regex.Matcher;
import java.util.regex.Pattern;
import java.util.stream.Stream;

/** What README.md says of the calls and of the tests is so. It is run from the project's folder. */
public final class ReadmeTest {
    private static final Pattern CALL = Pattern.compile("season\\.(\\w+)\\(([^)]*)\\);");
    private static final Pattern ANSWER = Pattern.compile("// (-?\\d+|true|false)(:|$)");
    private static final Pattern FENCED = Pattern.compile("(?s)```java\n(.*?)```");

    public static void main(String[] args) throws IOException, ReflectiveOperationException {
        Check check = new Check();
        String readme = Files.readString(Path.of("README.md"));
        Matcher fenced = FENCED.matcher(readme);
        check.yes("there is an example", fenced.find());
        exampleAnswers(check, fenced.group(1).lines().toList());
        everyCallIsNamed(check, readme);
        everyTestIsNamed(check, readme);
        check.finish("ReadmeTest");
    }

    private static void exampleAnswers(Check check, List<String> lines) throws ReflectiveOperationException {
        PoloSeason season = new PoloSeason();
        Map<String, Method> face = face();
        int told = 0;
        for (String line : lines) {
            Object answer = null;
            Matcher call = CALL.matcher(line);
            while (call.find()) {
                answer = face.get(call.group(1)).invoke(season, numbers(call.group(2)));
            }
            Matcher due = ANSWER.matcher(line);
            boolean tells = due.find();
            check.yes("an answer is told where there is one: " + line, tells == (answer != null));
            if (tells && answer != null) {
                check.yes(line + " answered " + answer, due.group(1).equals(answer.toString()));
                told++;
            }
        }
        check.yes("the example tells answers", told > 20);
    }

    private static Object[] numbers(String words) {
        return words.isEmpty() ? new Object[0] : Stream.of(words.split(", ")).map(Integer::valueOf).toArray();
    }

    private static Map<String, Method> face() {
        Map<String, Method> face = new HashMap<>();
        for (Method method : PoloSeason.class.getDeclaredMethods()) {
            if (Modifier.isPublic(method.getModifiers())) {
                face.put(method.getName(), method);
            }
        }
        return face;
    }

    private static void everyCallIsNamed(Check check, String readme) {
        for (String name : new TreeSet<>(face().keySet())) {
            check.yes("README.md has " + name, readme.contains("`" + name + "`"));
        }
    }

    private static void everyTestIsNamed(Check check, String readme) throws IOException {
        Set<String> named = new TreeSet<>();
        Matcher row = Pattern.compile("(?m)^\\| (\\w+Test) \\|").matcher(readme);
        while (row.find()) {
            named.add(row.group(1));
        }
        Set<String> present = new TreeSet<>();
        try (Stream<Path> files = Files.list(Path.of("src/test/java"))) {
            files.map(file -> file.getFileName().toString()).filter(name -> name.endsWith("Test.java"))
                    .forEach(name -> present.add(name.substring(0, name.length() - ".java".length())));
        }
        check.yes("README.md names " + named + ", there are " + present, named.equals(present));
    }
}
