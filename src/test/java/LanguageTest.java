import java.io.IOException;
import java.lang.reflect.Constructor;
import java.lang.reflect.Field;
import java.lang.reflect.Method;
import java.lang.reflect.Modifier;
import java.nio.file.Files;
import java.nio.file.Path;
import java.util.Set;
import java.util.TreeSet;
import java.util.regex.Matcher;
import java.util.regex.Pattern;

/** The public face, and those rules of LANGUAGE.md that can be seen by looking at the class and its words. */
public final class LanguageTest {
    private static final Class<FlashVolumes> CLASS = FlashVolumes.class;
    private static final Set<String> FACE = Set.of(
        "int append(int,int)", "int cancel()", "int change(int)", "int cutAfter(int)", "int digest()",
        "int draft(int)", "int drafted()", "int drop(int)", "int read(int,int)", "int size(int)",
        "int swap(int,int)", "void fail()", "void rest(int)", "void restart()", "void scrap()");
    private static final Set<String> CONSTANTS = Set.of("BAD_ARG", "CUT", "FULL", "NONE");
    private static final Set<String> PLAIN_TYPES = Set.of("int", "long", "short", "byte", "char", "boolean");

    private LanguageTest() {
    }

    public static void main(String[] args) throws IOException {
        face();
        members();
        words();
        Check.end("LanguageTest");
    }

    private static void face() {
        Check.holds("the class is public and final", CLASS.getModifiers() == (Modifier.PUBLIC | Modifier.FINAL));
        Set<String> methods = new TreeSet<>();
        Set<String> names = new TreeSet<>();
        for (Method method : CLASS.getDeclaredMethods()) {
            if (Modifier.isPublic(method.getModifiers())) {
                methods.add(told(method));
                names.add(method.getName());
                Check.holds("not static: " + method, !Modifier.isStatic(method.getModifiers()));
            }
        }
        Check.holds("the public methods are the document's: " + methods, methods.equals(FACE));
        for (Method method : CLASS.getDeclaredMethods()) {
            boolean hidden = Modifier.isPrivate(method.getModifiers());
            Check.holds("public, or private with a name of its own: " + method,
                hidden != Modifier.isPublic(method.getModifiers()) && !(hidden && names.contains(method.getName())));
            Check.holds("at most seven parameters: " + method, method.getParameterCount() <= 7);
        }
        Constructor<?>[] made = CLASS.getDeclaredConstructors();
        Check.holds("one public constructor without parameters",
            made.length == 1 && Modifier.isPublic(made[0].getModifiers()) && made[0].getParameterCount() == 0);
    }

    private static String told(Method method) {
        StringBuilder types = new StringBuilder();
        for (Class<?> type : method.getParameterTypes()) {
            types.append(types.length() == 0 ? "" : ",").append(type.getName());
        }
        return method.getReturnType().getName() + " " + method.getName() + "(" + types + ")";
    }

    private static void members() {
        Set<String> constants = new TreeSet<>();
        int kept = 0;
        for (Field field : CLASS.getDeclaredFields()) {
            int how = field.getModifiers();
            Class<?> type = field.getType().isArray() ? field.getType().getComponentType() : field.getType();
            Check.holds("a plain type: " + field, PLAIN_TYPES.contains(type.getName()));
            if (Modifier.isPublic(how)) {
                constants.add(field.getName());
                Check.holds("a constant: " + field, Modifier.isStatic(how) && field.getType() == int.class);
            } else {
                Check.holds("private: " + field, Modifier.isPrivate(how));
            }
            if (Modifier.isStatic(how)) {
                Check.holds("static only if final and a number: " + field,
                    Modifier.isFinal(how) && (field.getType() == int.class || field.getType() == long.class));
            } else {
                kept++;
            }
        }
        Check.holds("the public constants are the document's: " + constants, constants.equals(CONSTANTS));
        Check.holds("at most forty fields", kept <= 40);
        Check.holds("no nested class", CLASS.getDeclaredClasses().length == 0);
    }

    private static void words() throws IOException {
        String text = Files.readString(Path.of("src/main/java/FlashVolumes.java"));
        String code = text.replaceAll("(?s)/\\*.*?\\*/", " ").replaceAll("//[^\n]*", " ");
        Matcher word = Pattern.compile("\\b(package|import|throw|throws|try|catch|finally|synchronized|assert"
            + "|instanceof|null|float|double|String|Math|Integer|Long|System|Arrays|Object|interface|enum|record"
            + "|protected|var|getClass|hashCode|equals|toString|clone|notify|wait)\\b").matcher(code);
        while (word.find()) {
            Check.holds("the word '" + word.group() + "' is not used", false);
        }
        Check.holds("no lambda, method reference or text", !Pattern.compile("->|::|\"").matcher(code).find());
        int constructor = code.indexOf("public FlashVolumes()");
        Check.holds("arrays are made in the fields' initialisers alone", code.lastIndexOf("new ") < constructor);
        Check.holds("every array has a length that is a constant",
            !Pattern.compile("new (?!int\\[[A-Z_0-9]+\\];)").matcher(code).find());
    }
}
