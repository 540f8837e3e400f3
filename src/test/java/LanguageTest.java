import java.io.IOException;
import java.lang.reflect.Constructor;
import java.lang.reflect.Field;
import java.lang.reflect.Method;
import java.lang.reflect.Modifier;
import java.nio.file.Files;
import java.nio.file.Path;
import java.util.ArrayList;
import java.util.Arrays;
import java.util.HashSet;
import java.util.LinkedHashMap;
import java.util.List;
import java.util.Map;
import java.util.Set;
import java.util.TreeSet;
import java.util.regex.Matcher;
import java.util.regex.Pattern;

/** The public face of the document, and the rules of LANGUAGE.md that can be seen from outside. */
final class LanguageTest {
    private static final String CONSTANTS = "CLOSED=0 COOKIE_WAIT=1 COOKIE_ECHOED=2 ESTABLISHED=3 STREAMS=8 "
        + "MAX_MESSAGES=128 WINDOW=16 MAC_PRIME=16777619 SEND_BAD_STREAM=-1 SEND_LIMIT=-2 SEND_FULL=-3 "
        + "ECHO_FORGED=0 ECHO_STALE=1 ECHO_NEW=2 ECHO_DUPLICATE=3 ECHO_BUSY=4 MODE_REVERSE=1 MODE_DUPLICATE=2 "
        + "MODE_NO_REPLY=4 C_NOW=0 C_SUBMITTED=1 C_OUTSTANDING=2 C_DELIVERED=3 C_HELD=4 C_DUPLICATES=5 C_FORGED=6 "
        + "C_STALE=7 C_ABORTS=8";
    private static final String METHODS = "boolean connect[] | int send[int, boolean] | int run[int, int] | "
        + "boolean setPath[int, boolean] | boolean loseNext[int, int] | int injectEcho[int, int, int] | "
        + "int clientState[] | int serverTag[] | int primaryPath[] | int pathErrors[int] | boolean pathActive[int] | "
        + "int deliveredAt[int] | int transmissions[int] | boolean isAcked[int] | int counter[int]";
    private static final Pattern FORBIDDEN = Pattern.compile("\\b(import|package|throws?|try|catch|finally|synchronized"
        + "|assert|instanceof|null|String|Math|Integer|Long|System|Arrays|Object|float|double|enum|interface|record"
        + "|native|volatile|equals|hashCode|toString|clone|getClass|var)\\b|->|::|\"|@");
    private static final Pattern METHOD_START = Pattern.compile("    (?:public|private) [^=;]*?(\\w+)\\(.*\\{");

    public static void main(String[] args) throws IOException, IllegalAccessException {
        checkFace();
        checkFields();
        checkMethodNames();
        List<String> lines = codeLines(Path.of(args[0]));
        checkWords(lines);
        checkMethods(lines);
        Check.finish();
    }

    private static void checkFace() throws IllegalAccessException {
        Class<?> face = AssocStream.class;
        Check.due("modifiers of the class", face.getModifiers(), Modifier.PUBLIC | Modifier.FINAL);
        Check.due("package", face.getPackageName(), "");
        Check.due("interfaces", face.getInterfaces().length, 0);
        Check.due("superclass", face.getSuperclass().getName(), "java.lang.Object");
        Check.due("nested classes", face.getDeclaredClasses().length, 0);
        Set<String> constants = new TreeSet<>();
        for (Field field : face.getDeclaredFields()) {
            if (!Modifier.isPrivate(field.getModifiers())) {
                Check.due("modifiers of " + field.getName(), field.getModifiers(),
                    Modifier.PUBLIC | Modifier.STATIC | Modifier.FINAL);
                Check.due("type of " + field.getName(), field.getType().getName(), "int");
                constants.add(field.getName() + "=" + field.getInt(null));
            }
        }
        Check.due("constants", constants.toString(), new TreeSet<>(Arrays.asList(CONSTANTS.split(" "))).toString());
        Set<String> methods = new TreeSet<>();
        for (Method method : face.getDeclaredMethods()) {
            if (!Modifier.isPrivate(method.getModifiers())) {
                Check.due("modifiers of " + method.getName(), method.getModifiers(), Modifier.PUBLIC);
                methods.add(method.getReturnType() + " " + method.getName() + Arrays.toString(method.getParameterTypes()));
            }
        }
        Check.due("methods", methods.toString(), new TreeSet<>(Arrays.asList(METHODS.split(" \\| "))).toString());
        Constructor<?>[] made = face.getDeclaredConstructors();
        Check.due("constructors", made.length, 1);
        Check.due("constructor", made[0].toString(), "public AssocStream(int,int,int,int)");
    }

    private static void checkFields() {
        Set<String> whole = Set.of("int", "long", "short", "byte", "char", "boolean");
        int ofObject = 0;
        for (Field field : AssocStream.class.getDeclaredFields()) {
            Class<?> type = field.getType();
            if (Modifier.isStatic(field.getModifiers())) {
                Check.due("static field " + field.getName() + " is a final int or long",
                    Modifier.isFinal(field.getModifiers()) && (type == int.class || type == long.class), true);
            } else {
                ofObject++;
                Class<?> part = type.isArray() ? type.getComponentType() : type;
                Check.due("type of " + field.getName() + " is allowed", whole.contains(part.getName()), true);
                Check.due("array field " + field.getName() + " is final",
                    !type.isArray() || Modifier.isFinal(field.getModifiers()), true);
            }
        }
        Check.due("at most forty fields, found " + ofObject, ofObject <= 40, true);
    }

    private static void checkMethodNames() {
        Set<String> names = new HashSet<>();
        for (Method method : AssocStream.class.getDeclaredMethods()) {
            Check.due("no second method named " + method.getName(), names.add(method.getName()), true);
            Check.due("at most seven parameters in " + method.getName(), method.getParameterCount() <= 7, true);
            Check.due("no array answered by " + method.getName(), method.getReturnType().isArray(), false);
        }
    }

    private static List<String> codeLines(Path source) throws IOException {
        List<String> code = new ArrayList<>();
        for (String line : Files.readAllLines(source)) {
            Check.due("comments start with // alone: " + line, line.contains("/*"), false);
            int comment = line.indexOf("//");
            code.add(comment < 0 ? line : line.substring(0, comment));
        }
        return code;
    }

    private static void checkWords(List<String> lines) {
        for (String line : lines) {
            Matcher found = FORBIDDEN.matcher(line);
            Check.due("forbidden word in: " + line, found.find(), false);
            boolean inField = line.matches("    private final \\w+\\[\\] \\w+ = new \\w+\\[[A-Z_]+\\];");
            Check.due("new outside a field: " + line, line.matches(".*\\bnew\\b.*") && !inField, false);
        }
    }

    private static void checkMethods(List<String> lines) {
        Map<String, String> bodies = new LinkedHashMap<>();
        String name = "";
        int length = 0;
        for (String line : lines) {
            Matcher start = METHOD_START.matcher(line);
            if (start.matches()) {
                name = start.group(1);
                length = 0;
                bodies.put(name, "");
            } else if (!name.isEmpty()) {
                length++;
                bodies.merge(name, line + "\n", String::concat);
                Check.due("at most sixty lines in " + name, length <= 60, true);
            }
            if (line.equals("    }")) {
                name = "";
            }
        }
        Check.due("methods found in the source", bodies.size(), AssocStream.class.getDeclaredMethods().length + 1);
        for (String each : bodies.keySet()) {
            int depth = depthOf(each, bodies, new ArrayList<>());
            Check.due("calls six deep at most from " + each + ", found " + depth, depth <= 6, true);
        }
    }

    /** How many methods stand on each other below this one, itself counted; 99 where a method calls itself. */
    private static int depthOf(String name, Map<String, String> bodies, List<String> above) {
        if (above.contains(name)) {
            return 99;
        }
        List<String> here = new ArrayList<>(above);
        here.add(name);
        int deepest = 0;
        for (String other : bodies.keySet()) {
            if (Pattern.compile("\\b" + other + "\\(").matcher(bodies.get(name)).find()) {
                deepest = Math.max(deepest, depthOf(other, bodies, here));
            }
        }
        return deepest + 1;
    }
}
