import java.io.IOException;
import java.lang.reflect.Constructor;
import java.lang.reflect.Field;
import java.lang.reflect.Method;
import java.lang.reflect.Modifier;
import java.nio.file.Path;
import java.util.ArrayList;
import java.util.Arrays;
import java.util.HashSet;
import java.util.List;
import java.util.Set;
import java.util.TreeSet;

/** The public face of the document, and the rules of LANGUAGE.md as far as a program can see them. */
final class LanguageTest {
    private static final String CONSTANTS = "CLOSED=0 COOKIE_WAIT=1 COOKIE_ECHOED=2 ESTABLISHED=3 STREAMS=8 "
        + "MAX_MESSAGES=128 WINDOW=16 MAC_PRIME=16777619 SEND_BAD_STREAM=-1 SEND_LIMIT=-2 SEND_FULL=-3 "
        + "ECHO_FORGED=0 ECHO_STALE=1 ECHO_NEW=2 ECHO_DUPLICATE=3 ECHO_BUSY=4 MODE_REVERSE=1 MODE_DUPLICATE=2 "
        + "MODE_NO_REPLY=4 C_NOW=0 C_SUBMITTED=1 C_OUTSTANDING=2 C_DELIVERED=3 C_HELD=4 C_DUPLICATES=5 C_FORGED=6 "
        + "C_STALE=7 C_ABORTS=8";
    private static final String METHODS = "boolean connect[] | int send[int, boolean] | int run[int, int] | "
        + "boolean setPath[int, boolean] | boolean loseNext[int, int] | int injectEcho[int, int, int] | "
        + "int clientState[] | int serverTag[] | int primaryPath[] | int pathErrors[int] | boolean pathActive[int] | "
        + "int deliveredAt[int] | int transmissions[int] | boolean isAcked[int] | int counter[int]";
    private static final Set<String> WHOLE = Set.of("int", "long", "short", "byte", "char", "boolean");
    private static final Set<String> FORBIDDEN = Set.of("import", "package", "throw", "throws", "try", "catch", "finally",
        "synchronized", "assert", "instanceof", "null", "String", "Math", "Integer", "Long", "System", "Arrays", "Object",
        "float", "double", "enum", "interface", "record", "native", "volatile", "equals", "hashCode", "toString", "clone",
        "getClass", "var", "->", "::", "\"", "@");

    private static Source source;

    public static void main(String[] args) throws IOException {
        source = new Source(Path.of(args[0]));
        Check.sentence("The public face: constants", LanguageTest::checkConstants);
        Check.sentence("The public face: class, constructor and methods", LanguageTest::checkFace);
        Check.sentence("Rule 1: No private method bears the name of a public one.", LanguageTest::checkNames);
        Check.sentence("Rules 2 and 5: types, and static fields are constants", LanguageTest::checkTypes);
        Check.sentence("Rules 2, 3 and 6: words", LanguageTest::checkWords);
        Check.sentence("Rule 4: Arrays are made in a field's initialiser or in the constructor", LanguageTest::checkArraysMade);
        Check.sentence("Rule 4: no method assigns to an array field", LanguageTest::checkArraysKept);
        Check.sentence("Rule 7: No call may ever throw or fail to end, for any arguments in any state",
            LanguageTest::checkOddArguments);
        Check.sentence("Rule 8: No recursion. Rule 10: calls go at most six deep", LanguageTest::checkDepth);
        Check.sentence("Rule 8: Every loop has an end", LanguageTest::checkLoops);
        Check.sentence("Rule 10: no call stands inside the arguments of another call", LanguageTest::checkArguments);
        Check.sentence("Rule 10: seven parameters, some sixty lines, some forty fields", LanguageTest::checkSizes);
        Check.finish();
    }

    private static void checkConstants() {
        Set<String> constants = new TreeSet<>();
        for (Field field : AssocStream.class.getDeclaredFields()) {
            if (!Modifier.isPrivate(field.getModifiers())) {
                Check.due("modifiers of " + field.getName(), field.getModifiers(),
                    Modifier.PUBLIC | Modifier.STATIC | Modifier.FINAL);
                Check.due("type of " + field.getName(), field.getType().getName(), "int");
                constants.add(field.getName() + "=" + valueOf(field));
            }
        }
        Check.due("constants", constants.toString(), new TreeSet<>(Arrays.asList(CONSTANTS.split(" "))).toString());
    }

    private static int valueOf(Field constant) {
        try {
            return constant.getInt(null);
        } catch (IllegalAccessException hidden) {
            throw new IllegalStateException(hidden);
        }
    }

    private static void checkFace() {
        Class<?> face = AssocStream.class;
        Check.due("modifiers of the class", face.getModifiers(), Modifier.PUBLIC | Modifier.FINAL);
        Check.due("package", face.getPackageName(), "");
        Check.due("interfaces", face.getInterfaces().length, 0);
        Check.due("superclass", face.getSuperclass().getName(), "java.lang.Object");
        Check.due("nested classes", face.getDeclaredClasses().length, 0);
        Set<String> methods = new TreeSet<>();
        for (Method method : face.getDeclaredMethods()) {
            if (!Modifier.isPrivate(method.getModifiers())) {
                Check.due("modifiers of " + method.getName(), method.getModifiers(), Modifier.PUBLIC);
                methods.add(method.getReturnType() + " " + method.getName() + Arrays.toString(method.getParameterTypes()));
            }
        }
        Check.due("methods", methods.toString(), new TreeSet<>(Arrays.asList(METHODS.split(" \\| "))).toString());
        Constructor<?>[] made = face.getDeclaredConstructors();
        Check.due("constructors", made.length, 1);
        Check.due("constructor", made[0].toString(), "public AssocStream(int,int,int,int)");
    }

    private static void checkNames() {
        Set<String> open = new HashSet<>();
        for (Method method : AssocStream.class.getMethods()) {
            open.add(method.getName());
        }
        for (Method method : AssocStream.class.getDeclaredMethods()) {
            if (Modifier.isPrivate(method.getModifiers())) {
                Check.due("a private method named " + method.getName(), open.contains(method.getName()), false);
            }
        }
    }

    private static void checkTypes() {
        for (Field field : AssocStream.class.getDeclaredFields()) {
            Class<?> type = field.getType();
            if (Modifier.isStatic(field.getModifiers())) {
                Check.due("static field " + field.getName() + " is a final int or long",
                    Modifier.isFinal(field.getModifiers()) && (type == int.class || type == long.class), true);
            } else {
                checkType("field " + field.getName(), type);
            }
        }
        for (Method method : AssocStream.class.getDeclaredMethods()) {
            Check.due("no array answered by " + method.getName(), method.getReturnType().isArray(), false);
            for (Class<?> type : method.getParameterTypes()) {
                checkType("parameter of " + method.getName(), type);
            }
        }
    }

    private static void checkType(String what, Class<?> type) {
        Class<?> part = type.isArray() ? type.getComponentType() : type;
        Check.due("type " + type.getName() + " of " + what, WHOLE.contains(part.getName()), true);
    }

    private static void checkWords() {
        for (Source.Word word : source.words) {
            Check.due("line " + word.line() + " has the word " + word.text(), FORBIDDEN.contains(word.text()), false);
        }
    }

    private static void checkArraysMade() {
        checkEachNew(source.outside);
        source.bodies.forEach((name, body) -> {
            boolean makes = body.stream().anyMatch(word -> word.is("new"));
            Check.due("new in method " + name, makes && !name.equals("AssocStream"), false);
            checkEachNew(body);
        });
    }

    /** A new must read: new type [ length ]. */
    private static void checkEachNew(List<Source.Word> part) {
        for (int at = 0; at + 4 < part.size(); at++) {
            if (part.get(at).is("new")) {
                boolean array = WHOLE.contains(part.get(at + 1).text()) && part.get(at + 2).is("[")
                    && part.get(at + 3).text().matches("\\w+") && part.get(at + 4).is("]");
                Check.due("line " + part.get(at).line() + " makes an array of a plain length", array, true);
            }
        }
    }

    private static void checkArraysKept() {
        Set<String> arrays = new HashSet<>();
        for (Field field : AssocStream.class.getDeclaredFields()) {
            if (field.getType().isArray()) {
                arrays.add(field.getName());
            }
        }
        source.bodies.forEach((name, body) -> {
            for (int at = 0; at + 1 < body.size(); at++) {
                boolean assigned = arrays.contains(body.get(at).text()) && body.get(at + 1).is("=");
                Check.due("an array assigned in " + name, assigned && !name.equals("AssocStream"), false);
            }
        });
    }

    /** Check tells an exception; a call without an end would keep this test from ending. */
    private static void checkOddArguments() {
        int[] odd = {Check.MIN, Check.MIN + 1, -129, -17, -1, 0, 1, 7, 8, 16, 127, 128, 256, 65536, Check.MAX - 1, Check.MAX};
        Situations.all().forEach((name, make) -> {
            AssocStream x = make.get();
            for (int a : odd) {
                for (int b : odd) {
                    callAll(x, a, b);
                }
            }
            Check.due("rounds took place, " + name, x.counter(AssocStream.C_NOW) > odd.length * odd.length, true);
        });
    }

    private static void callAll(AssocStream x, int a, int b) {
        new AssocStream(a, b, a, b).run(b, a);
        x.setPath(a, b > 0);
        x.loseNext(a, b);
        x.injectEcho(a, b, Check.mac(Check.KEY, a, b));
        x.injectEcho(b, a, b);
        x.send(a, b % 2 == 0);
        x.connect();
        x.run(a, b);
        x.pathErrors(a);
        x.pathActive(a);
        x.deliveredAt(a);
        x.transmissions(a);
        x.isAcked(a);
        x.counter(a);
    }

    private static void checkDepth() {
        for (String name : source.bodies.keySet()) {
            int depth = source.depthOf(name, new ArrayList<>());
            Check.due("calls six deep at most from " + name + ", found " + depth, depth <= 6, true);
        }
    }

    /** Whether a bound is ever met only a reader can tell; a loop without any is found here. */
    private static void checkLoops() {
        source.bodies.forEach((name, body) -> {
            for (int at = 0; at + 2 < body.size(); at++) {
                boolean endless = body.get(at).is("while") && body.get(at + 2).is("true")
                    || body.get(at).is(";") && body.get(at + 1).is(";");
                Check.due("a loop without an end in " + name, endless, false);
            }
        });
    }

    private static void checkArguments() {
        source.bodies.forEach((name, body) -> {
            for (int at = 0; at < body.size(); at++) {
                if (source.isCall(body, at)) {
                    for (int inside = at + 2; inside < Source.closing(body, at + 1); inside++) {
                        Check.due("line " + body.get(at).line() + ", a call inside a call", source.isCall(body, inside), false);
                    }
                }
            }
        });
    }

    private static void checkSizes() {
        int fields = 0;
        for (Field field : AssocStream.class.getDeclaredFields()) {
            fields += Modifier.isStatic(field.getModifiers()) ? 0 : 1;
        }
        Check.due("some forty fields, found " + fields, fields <= 42, true);
        Check.due("some sixty lines in a method, found " + source.longestMethod, source.longestMethod <= 65, true);
        Set<String> names = new HashSet<>();
        for (Method method : AssocStream.class.getDeclaredMethods()) {
            names.add(method.getName());
            Check.due("at most seven parameters in " + method.getName(), method.getParameterCount() <= 7, true);
        }
        names.add("AssocStream");
        Check.due("methods found in the source", new TreeSet<>(source.bodies.keySet()).toString(),
            new TreeSet<>(names).toString());
    }
}
