import java.io.IOException;
import java.lang.reflect.Field;
import java.lang.reflect.Method;
import java.lang.reflect.Modifier;
import java.nio.file.Files;
import java.nio.file.Path;
import java.util.HashSet;
import java.util.List;
import java.util.Set;
import java.util.TreeSet;
import java.util.regex.Pattern;

/** The public face of the document, and the rules of LANGUAGE.md that can be seen from outside. */
public final class FaceTest {
    private static final Set<String> FACE = Set.of("int read(int)", "void endRead()", "void floor(int)",
        "int probe(int)", "void turn()", "int count()", "int chain()", "int before()", "int step()",
        "int solid()", "int chains()", "int longest()");
    private static final Set<Class<?>> ALLOWED = Set.of(int.class, long.class, short.class, byte.class,
        char.class, boolean.class, int[].class, long[].class, short[].class, byte[].class, char[].class,
        boolean[].class);
    private static final List<String> BANNED = List.of("import", "package", "throw", "throws", "try", "catch",
        "synchronized", "assert", "instanceof", "null", "float", "double", "String", "Math", "Integer", "System",
        "Arrays", "Object", "enum", "interface", "record", "protected", "volatile", "native");

    public static void main(String[] args) throws IOException {
        String code = codeWithoutComments();
        Check.test("The public face, rule 1: one public final class with one constructor", FaceTest::classItself);
        Check.test("The public face, rule 1: the methods of the document and no other", FaceTest::methods);
        Check.test("Rules 1, 2 and 5: private fields of allowed types, at most forty", FaceTest::fields);
        Check.test("Rules 2, 3 and 6: no word that is ruled out", () -> words(code));
        Check.test("Rules 4 and 5: arrays are made with the fields", () -> arrays(code));
        Check.finish();
    }

    private static void classItself() {
        int modifiers = UnitigBuilder.class.getModifiers();
        Check.holds("public and final", Modifier.isPublic(modifiers) && Modifier.isFinal(modifiers));
        Check.due("nested classes", UnitigBuilder.class.getDeclaredClasses().length, 0);
        Check.due("constructors", UnitigBuilder.class.getDeclaredConstructors().length, 1);
        Check.due("public constructors", UnitigBuilder.class.getConstructors().length, 1);
        Check.holds("no package", UnitigBuilder.class.getPackageName().isEmpty());
    }

    private static void methods() {
        Set<String> seen = new TreeSet<>();
        Set<String> publicNames = new HashSet<>();
        Set<String> privateNames = new HashSet<>();
        for (Method method : UnitigBuilder.class.getDeclaredMethods()) {
            Check.holds(method + " has seven parameters at most", method.getParameterCount() <= 7);
            if (Modifier.isPrivate(method.getModifiers())) {
                privateNames.add(method.getName());
            } else {
                publicNames.add(method.getName());
                seen.add(asInFace(method));
                Check.holds(method + " is public", Modifier.isPublic(method.getModifiers()));
            }
        }
        Check.holds("the face is that of the document, not " + seen, seen.equals(FACE));
        privateNames.retainAll(publicNames);
        Check.holds("private methods with a public name: " + privateNames, privateNames.isEmpty());
    }

    private static String asInFace(Method method) {
        StringBuilder parameters = new StringBuilder();
        for (Class<?> type : method.getParameterTypes()) {
            parameters.append(parameters.length() == 0 ? "" : ",").append(type);
        }
        return method.getReturnType() + " " + method.getName() + "(" + parameters + ")";
    }

    private static void fields() {
        int kept = 0;
        for (Field field : UnitigBuilder.class.getDeclaredFields()) {
            int modifiers = field.getModifiers();
            Check.holds(field + " is private", Modifier.isPrivate(modifiers));
            Check.holds(field + " is of an allowed type", ALLOWED.contains(field.getType()));
            if (Modifier.isStatic(modifiers)) {
                Check.holds(field + " is a constant", Modifier.isFinal(modifiers) && !field.getType().isArray());
            } else {
                kept++;
            }
        }
        Check.holds("forty fields at most", kept <= 40);
    }

    private static String codeWithoutComments() throws IOException {
        String text = Files.readString(Path.of("src/main/java/UnitigBuilder.java"));
        return text.replaceAll("(?s)/\\*.*?\\*/", " ").replaceAll("//[^\n]*", " ");
    }

    private static void words(String code) {
        for (String word : BANNED) {
            Check.holds("no " + word, !Pattern.compile("\\b" + word + "\\b").matcher(code).find());
        }
        Check.holds("no lambda or method reference", !code.contains("->") && !code.contains("::"));
    }

    private static void arrays(String code) {
        Check.holds("no static initialiser", !Pattern.compile("\\bstatic\\s*\\{").matcher(code).find());
        Pattern fieldArray = Pattern.compile("private final \\w+\\[\\] \\w+ = new \\w+\\[\\w+\\];");
        String withoutFields = fieldArray.matcher(code).replaceAll(" ");
        Check.holds("arrays are made with the fields", !Pattern.compile("\\bnew\\b").matcher(withoutFields).find());
    }
}
