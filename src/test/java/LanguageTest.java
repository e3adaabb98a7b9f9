import java.io.IOException;
import java.lang.reflect.Constructor;
import java.lang.reflect.Field;
import java.lang.reflect.Method;
import java.lang.reflect.Modifier;
import java.nio.file.Files;
import java.nio.file.Path;
import java.util.ArrayDeque;
import java.util.Deque;
import java.util.Map;
import java.util.Set;
import java.util.TreeMap;
import java.util.TreeSet;
import java.util.regex.Matcher;
import java.util.regex.Pattern;

/** The public face, and those rules of LANGUAGE.md that can be seen by looking at the class and its words. */
public final class LanguageTest {
    private static final Class<FlashVolumes> CLASS = FlashVolumes.class;
    private static final Set<String> FACE = Set.of(
        "int append(int,int)", "int cancel()", "int change(int)", "int cutAfter(int)", "int digest()",
        "int draft(int)", "int drafted()", "int drop(int)", "int read(int,int)", "int size(int)",
        "int swap(int,int)", "void fail()", "void rest(int)", "void restart()", "void scrap()");
    private static final Set<String> CONSTANTS = Set.of("BAD_ARG", "CUT", "FULL", "NONE");
    private static final Set<String> PLAIN_TYPES = Set.of("int", "long", "short", "byte", "char", "boolean");
    private static final Set<String> NOT_CALLS = Set.of("if", "for", "while", "switch", "return", "else");

    private LanguageTest() {
    }

    public static void main(String[] args) throws IOException {
        face();
        members();
        String text = Files.readString(Path.of("src/main/java/FlashVolumes.java"));
        String code = text.replaceAll("(?s)/\\*.*?\\*/", " ").replaceAll("//[^\n]*", " ");
        words(code);
        calls(code);
        Check.end("LanguageTest");
    }

    private static void face() {
        Check.holds("the class is public and final", CLASS.getModifiers() == (Modifier.PUBLIC | Modifier.FINAL));
        Set<String> methods = new TreeSet<>();
        Set<String> names = new TreeSet<>();
        for (Method method : CLASS.getDeclaredMethods()) {
            if (Modifier.isPublic(method.getModifiers())) {
                methods.add(told(method));
                names.add(method.getName());
                Check.holds("not static: " + method, !Modifier.isStatic(method.getModifiers()));
            }
        }
        Check.holds("the public methods are the document's: " + methods, methods.equals(FACE));
        for (Method method : CLASS.getDeclaredMethods()) {
            boolean hidden = Modifier.isPrivate(method.getModifiers());
            Check.holds("public, or private with a name of its own: " + method,
                hidden != Modifier.isPublic(method.getModifiers()) && !(hidden && names.contains(method.getName())));
            Check.holds("at most seven parameters: " + method, method.getParameterCount() <= 7);
        }
        Constructor<?>[] made = CLASS.getDeclaredConstructors();
        Check.holds("one public constructor without parameters",
            made.length == 1 && Modifier.isPublic(made[0].getModifiers()) && made[0].getParameterCount() == 0);
    }

    private static String told(Method method) {
        StringBuilder types = new StringBuilder();
        for (Class<?> type : method.getParameterTypes()) {
            types.append(types.length() == 0 ? "" : ",").append(type.getName());
        }
        return method.getReturnType().getName() + " " + method.getName() + "(" + types + ")";
    }

    private static void members() {
        Set<String> constants = new TreeSet<>();
        int kept = 0;
        for (Field field : CLASS.getDeclaredFields()) {
            int how = field.getModifiers();
            Class<?> type = field.getType().isArray() ? field.getType().getComponentType() : field.getType();
            Check.holds("a plain type: " + field, PLAIN_TYPES.contains(type.getName()));
            if (Modifier.isPublic(how)) {
                constants.add(field.getName());
                Check.holds("a constant: " + field, Modifier.isStatic(how) && field.getType() == int.class);
            } else {
                Check.holds("private: " + field, Modifier.isPrivate(how));
            }
            if (Modifier.isStatic(how)) {
                Check.holds("static only if final and a number: " + field,
                    Modifier.isFinal(how) && (field.getType() == int.class || field.getType() == long.class));
            } else {
                kept++;
            }
        }
        Check.holds("the public constants are the document's: " + constants, constants.equals(CONSTANTS));
        Check.holds("at most forty fields", kept <= 40);
        Check.holds("no nested class", CLASS.getDeclaredClasses().length == 0);
    }

    private static void words(String code) {
        Matcher word = Pattern.compile("\\b(package|import|throw|throws|try|catch|finally|synchronized|assert"
            + "|instanceof|null|float|double|String|Math|Integer|Long|System|Arrays|Object|interface|enum|record"
            + "|protected|var|getClass|hashCode|equals|toString|clone|notify|wait)\\b").matcher(code);
        while (word.find()) {
            Check.holds("the word '" + word.group() + "' is not used", false);
        }
        Check.holds("no lambda, method reference or text", !Pattern.compile("->|::|\"").matcher(code).find());
        int constructor = code.indexOf("public FlashVolumes()");
        Check.holds("arrays are made in the fields' initialisers alone", code.lastIndexOf("new ") < constructor);
        Check.holds("every array has a length that is a constant",
            !Pattern.compile("new (?!int\\[[A-Z_0-9]+\\];)").matcher(code).find());
    }

    /** Lengths, depth and nesting, read from the text as it is laid out: a method begins and ends four blanks in. */
    private static void calls(String code) {
        Map<String, String> bodies = new TreeMap<>();
        Matcher method = Pattern.compile(
            "(?ms)^    (?:public|private) [^;={}]*?(\\w+)\\([^()]*\\) \\{\n(.*?)^    }$").matcher(code);
        while (method.find()) {
            bodies.put(method.group(1), method.group(2));
        }
        Check.due("methods and constructor found in the text", bodies.size(), CLASS.getDeclaredMethods().length + 1);
        for (Map.Entry<String, String> entry : bodies.entrySet()) {
            Check.holds("at most sixty lines: " + entry.getKey(), entry.getValue().lines().count() <= 60);
            Check.holds("no call inside another's arguments: " + entry.getKey(), !callInCall(entry.getValue()));
        }
        // What is still reached after six calls is too deep, or goes round.
        Set<String> reached = bodies.keySet();
        for (int deep = 1; deep <= 6; deep++) {
            reached = called(reached, bodies);
        }
        Check.holds("no recursion, and calls at most six deep: " + reached, reached.isEmpty());
    }

    private static Set<String> called(Set<String> callers, Map<String, String> bodies) {
        Set<String> names = new TreeSet<>();
        for (String caller : callers) {
            for (String name : bodies.keySet()) {
                if (Pattern.compile("\\b" + name + "\\(").matcher(bodies.get(caller)).find()) {
                    names.add(name);
                }
            }
        }
        return names;
    }

    private static boolean callInCall(String body) {
        Matcher bracket = Pattern.compile("(\\w*)\\s*([()])").matcher(body);
        Deque<Boolean> open = new ArrayDeque<>();
        while (bracket.find()) {
            if (bracket.group(2).equals(")")) {
                open.pop();
            } else {
                boolean call = !bracket.group(1).isEmpty() && !NOT_CALLS.contains(bracket.group(1));
                if (call && open.contains(true)) {
                    return true;
                }
                open.push(call);
            }
        }
        return false;
    }
}
