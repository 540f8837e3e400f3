import java.io.IOException;
import java.lang.reflect.Method;
import java.lang.reflect.Modifier;
import java.nio.file.Files;
import java.nio.file.Path;
import java.util.List;
import java.util.regex.Matcher;
import java.util.regex.Pattern;
import java.util.stream.Collectors;
import java.util.stream.Stream;

/** That README.md tells the truth: its example is played as it stands there. */
final class ReadmeTest {
    private static final Pattern MADE = Pattern.compile("AssocStream x = new AssocStream\\((.*?)\\);.*");
    private static final Pattern CALL = Pattern.compile("x\\.(\\w+)\\((.*?)\\);\\s*// answers (-?\\w+).*");

    private static String readme;

    public static void main(String[] args) throws IOException {
        readme = Files.readString(Path.of("README.md"));
        List<String> tests = testNames();
        Check.sentence("README.md: the example's answers", ReadmeTest::checkExample);
        Check.sentence("README.md: every call of the public face", ReadmeTest::checkCalls);
        Check.sentence("README.md: every test of the project", () -> checkTests(tests));
        Check.finish();
    }

    private static List<String> testNames() throws IOException {
        try (Stream<Path> files = Files.list(Path.of("src/test/java"))) {
            return files.map(file -> file.getFileName().toString()).filter(name -> name.endsWith("Test.java"))
                .map(name -> name.replace(".java", "")).sorted().collect(Collectors.toList());
        }
    }

    private static void checkExample() {
        String[] lines = readme.split("```java\n")[1].split("\n```")[0].split("\n");
        Matcher made = MADE.matcher(lines[0]);
        Check.due("the example makes an object first", made.matches(), true);
        Object[] given = arguments(made.group(1));
        AssocStream x = new AssocStream((int) given[0], (int) given[1], (int) given[2], (int) given[3]);
        for (int at = 1; at < lines.length; at++) {
            Matcher call = CALL.matcher(lines[at]);
            Check.due("a call and its answer: " + lines[at], call.matches(), true);
            Check.due(lines[at], answerOf(x, call.group(1), arguments(call.group(2))), call.group(3));
        }
    }

    private static Object[] arguments(String list) {
        return Stream.of(list.split(", ")).filter(word -> !word.isEmpty()).map(ReadmeTest::valueOf).toArray();
    }

    private static Object valueOf(String word) {
        if (word.equals("true") || word.equals("false")) {
            return word.equals("true");
        }
        if (!word.startsWith("AssocStream.")) {
            return Integer.valueOf(word);
        }
        try {
            return AssocStream.class.getField(word.substring("AssocStream.".length())).get(null);
        } catch (ReflectiveOperationException unknown) {
            throw new IllegalStateException(unknown);
        }
    }

    private static String answerOf(AssocStream x, String name, Object[] given) {
        try {
            for (Method method : AssocStream.class.getDeclaredMethods()) {
                if (method.getName().equals(name)) {
                    return String.valueOf(method.invoke(x, given));
                }
            }
        } catch (ReflectiveOperationException fault) {
            throw new IllegalStateException(fault);
        }
        return "nothing: there is no such call";
    }

    private static void checkCalls() {
        for (Method method : AssocStream.class.getDeclaredMethods()) {
            if (Modifier.isPublic(method.getModifiers())) {
                Check.due("README.md tells of " + method.getName(), readme.contains("`" + method.getName() + "("), true);
            }
        }
    }

    private static void checkTests(List<String> tests) {
        for (String name : tests) {
            Check.due("README.md names " + name, Pattern.compile("\\b" + name + "\\b").matcher(readme).find(), true);
        }
    }
}
