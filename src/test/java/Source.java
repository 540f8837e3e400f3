import java.io.IOException;
import java.nio.file.Files;
import java.nio.file.Path;
import java.util.ArrayList;
import java.util.LinkedHashMap;
import java.util.List;
import java.util.Map;
import java.util.regex.Matcher;
import java.util.regex.Pattern;

/** The words of a Java file of one class, cut into methods; just enough Java for the rules of LANGUAGE.md. */
final class Source {
    record Word(String text, int line) {
        boolean is(String other) {
            return text.equals(other);
        }
    }

    private static final Pattern SKIPPED = Pattern.compile("//[^\n]*|/\\*.*?\\*/", Pattern.DOTALL);
    private static final Pattern WORD = Pattern.compile("\\w+|->|::|[=!<>]=|'(?:\\\\.|[^'])*'|[^\\s\\w]");

    final List<Word> words = new ArrayList<>();
    /** The words between the braces of each method, methods of one name together; the constructor bears the class's name. */
    final Map<String, List<Word>> bodies = new LinkedHashMap<>();
    /** The words that stand in the class but in no method. */
    final List<Word> outside = new ArrayList<>();
    int longestMethod = 0;

    Source(Path file) throws IOException {
        String text = SKIPPED.matcher(Files.readString(file)).replaceAll(skipped -> skipped.group().replaceAll("[^\n]", " "));
        Matcher found = WORD.matcher(text);
        int line = 1;
        int read = 0;
        while (found.find()) {
            for (; read < found.start(); read++) {
                line += text.charAt(read) == '\n' ? 1 : 0;
            }
            words.add(new Word(found.group(), line));
        }
        cutMethods();
    }

    private void cutMethods() {
        int at = 0;
        while (at < words.size()) {
            boolean opensMethod = words.get(at).is("{") && at > 0 && words.get(at - 1).is(")");
            if (opensMethod) {
                int end = closing(at);
                bodies.computeIfAbsent(nameBefore(at), name -> new ArrayList<>()).addAll(words.subList(at + 1, end));
                longestMethod = Math.max(longestMethod, words.get(end).line() - words.get(at).line() + 1);
                at = end;
            } else {
                outside.add(words.get(at));
            }
            at++;
        }
    }

    private String nameBefore(int brace) {
        int at = brace;
        while (!words.get(at).is("(")) {
            at--;
        }
        return words.get(at - 1).text();
    }

    private int closing(int open) {
        return closing(words, open);
    }

    /** Where the bracket that opens here is closed. */
    static int closing(List<Word> words, int open) {
        String opening = words.get(open).text();
        String closing = opening.equals("{") ? "}" : ")";
        int depth = 0;
        for (int at = open; at < words.size(); at++) {
            depth += words.get(at).is(opening) ? 1 : words.get(at).is(closing) ? -1 : 0;
            if (depth == 0) {
                return at;
            }
        }
        return words.size() - 1;
    }

    /** Whether a method of the class is called at this place of a body. */
    boolean isCall(List<Word> body, int at) {
        return at + 1 < body.size() && body.get(at + 1).is("(") && bodies.containsKey(body.get(at).text());
    }

    /** How many methods stand on each other below this one, itself counted; 99 where a method calls itself. */
    int depthOf(String name, List<String> above) {
        if (above.contains(name)) {
            return 99;
        }
        List<String> here = new ArrayList<>(above);
        here.add(name);
        List<Word> body = bodies.get(name);
        int deepest = 0;
        for (int at = 0; at < body.size(); at++) {
            if (isCall(body, at)) {
                deepest = Math.max(deepest, depthOf(body.get(at).text(), here));
            }
        }
        return deepest + 1;
    }
}
