import java.io.IOException;
import java.lang.reflect.Constructor;
import java.lang.reflect.Field;
import java.lang.reflect.Method;
import java.lang.reflect.Modifier;
import java.nio.file.Files;
import java.nio.file.Path;
import java.util.Arrays;
import java.util.Set;
import java.util.TreeSet;
import java.util.regex.Pattern;

/** The public face of the class, and the words that LANGUAGE.md rules out. Run from the project's directory. */
public final class FaceTest {

    private static final Set<String> PUBLIC_METHODS = Set.of(
        "int add(int)", "int drop(int)", "int support(int)", "int often(int)", "int full(int)", "int largest(int)",
        "int size(int)", "int next(int,int)", "int closure(int)", "int rules(int,int)");

    private static final Set<String> FIELD_TYPES = Set.of(
        "int", "long", "short", "byte", "char", "boolean", "int[]", "long[]", "short[]", "byte[]", "char[]", "boolean[]");

    private static final String[] RULED_OUT = {
        "package", "import", "throw", "throws", "try", "catch", "finally", "synchronized", "assert", "instanceof", "null",
        "float", "double", "interface", "enum", "record", "protected", "String", "Math", "Integer", "Long", "Object",
        "System", "Arrays", "->", "::", "\""
    };

    public static void main(String[] args) throws IOException {
        theClass();
        methods();
        fields();
        words();
        Due.end();
    }

    private static void theClass() {
        int modifiers = ItemSets.class.getModifiers();
        Due.holds("the class is public and final", Modifier.isPublic(modifiers) && Modifier.isFinal(modifiers));
        Due.holds("the class extends and implements nothing",
            ItemSets.class.getSuperclass() == Object.class && ItemSets.class.getInterfaces().length == 0);
        Due.is("nested classes", ItemSets.class.getDeclaredClasses().length, 0);
        Constructor<?>[] constructors = ItemSets.class.getDeclaredConstructors();
        Due.holds("one public constructor without parameters", constructors.length == 1
            && Modifier.isPublic(constructors[0].getModifiers()) && constructors[0].getParameterCount() == 0);
    }

    private static void methods() {
        Set<String> found = new TreeSet<>();
        Set<String> hidden = new TreeSet<>();
        for (Method method : ItemSets.class.getDeclaredMethods()) {
            if (Modifier.isPrivate(method.getModifiers())) {
                hidden.add(method.getName());
            } else {
                found.add(sketch(method));
                Due.holds(method + " is public and not static",
                    Modifier.isPublic(method.getModifiers()) && !Modifier.isStatic(method.getModifiers()));
            }
            Due.holds(method + " has at most seven parameters", method.getParameterCount() <= 7);
            Due.holds(method + " answers no array", !method.getReturnType().isArray());
        }
        Due.holds("the methods are those of the document, not " + found, found.equals(PUBLIC_METHODS));
        for (String name : hidden) {
            Due.holds("no public method is called " + name, found.stream().noneMatch(m -> m.startsWith("int " + name + "(")));
        }
    }

    private static String sketch(Method method) {
        String parameters = String.join(",", Arrays.stream(method.getParameterTypes()).map(Class::getSimpleName).toList());
        return method.getReturnType().getSimpleName() + " " + method.getName() + "(" + parameters + ")";
    }

    private static void fields() {
        for (Field field : ItemSets.class.getDeclaredFields()) {
            String type = field.getType().getSimpleName();
            Due.holds(field + " is private", Modifier.isPrivate(field.getModifiers()));
            Due.holds(field + " has a type of rule 2", FIELD_TYPES.contains(type));
            if (Modifier.isStatic(field.getModifiers())) {
                Due.holds(field + " is a constant int or long",
                    Modifier.isFinal(field.getModifiers()) && (type.equals("int") || type.equals("long")));
            }
        }
    }

    private static void words() throws IOException {
        String source = Files.readString(Path.of("src/main/java/ItemSets.java"));
        String code = source.replaceAll("(?s)/\\*.*?\\*/", " ").replaceAll("//[^\n]*", " ");
        for (String word : RULED_OUT) {
            String edge = Character.isLetter(word.charAt(0)) ? "\\b" : "";
            boolean used = Pattern.compile(edge + Pattern.quote(word) + edge).matcher(code).find();
            Due.holds("the code does not use " + word, !used);
        }
        Due.holds("no static initialiser", !Pattern.compile("\\bstatic\\s*\\{").matcher(code).find());
    }
}
