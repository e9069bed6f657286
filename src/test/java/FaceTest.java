import java.lang.reflect.Constructor;
import java.lang.reflect.Field;
import java.lang.reflect.Method;
import java.lang.reflect.Modifier;
import java.util.Arrays;
import java.util.List;
import java.util.Set;
import java.util.TreeSet;

/** The public face of the class, and the types of its members. */
public final class FaceTest {

    private static final Set<String> PUBLIC_METHODS = Set.of(
        "int add(int)", "int drop(int)", "int support(int)", "int often(int)", "int full(int)", "int largest(int)",
        "int size(int)", "int next(int,int)", "int closure(int)", "int rules(int,int)");

    private static final Set<String> FIELD_TYPES = Set.of(
        "int", "long", "short", "byte", "char", "boolean",
        "int[]", "long[]", "short[]", "byte[]", "char[]", "boolean[]");

    public static void main(String[] args) {
        theClass();
        methods();
        fields();
        Due.end();
    }

    private static void theClass() {
        int modifiers = ItemSets.class.getModifiers();
        Due.holds("the class is public and final", Modifier.isPublic(modifiers) && Modifier.isFinal(modifiers));
        Due.holds("the class extends and implements nothing",
            ItemSets.class.getSuperclass() == Object.class && ItemSets.class.getInterfaces().length == 0);
        Due.is("nested classes", ItemSets.class.getDeclaredClasses().length, 0);
        Constructor<?>[] constructors = ItemSets.class.getDeclaredConstructors();
        Due.holds("one public constructor without parameters", constructors.length == 1
            && Modifier.isPublic(constructors[0].getModifiers()) && constructors[0].getParameterCount() == 0);
    }

    private static void methods() {
        Set<String> found = new TreeSet<>();
        Set<String> hidden = new TreeSet<>();
        for (Method method : ItemSets.class.getDeclaredMethods()) {
            if (Modifier.isPrivate(method.getModifiers())) {
                hidden.add(method.getName());
            } else {
                found.add(sketch(method));
                Due.holds(method + " is public and not static",
                    Modifier.isPublic(method.getModifiers()) && !Modifier.isStatic(method.getModifiers()));
            }
            Due.holds(method + " has at most seven parameters", method.getParameterCount() <= 7);
            Due.holds(method + " answers no array", !method.getReturnType().isArray());
        }
        Due.holds("the methods are those of the document, not " + found, found.equals(PUBLIC_METHODS));
        for (String name : hidden) {
            boolean taken = found.stream().anyMatch(method -> method.startsWith("int " + name + "("));
            Due.holds("no public method is called " + name, !taken);
        }
    }

    private static String sketch(Method method) {
        List<String> types = Arrays.stream(method.getParameterTypes()).map(Class::getSimpleName).toList();
        String parameters = String.join(",", types);
        return method.getReturnType().getSimpleName() + " " + method.getName() + "(" + parameters + ")";
    }

    private static void fields() {
        for (Field field : ItemSets.class.getDeclaredFields()) {
            String type = field.getType().getSimpleName();
            Due.holds(field + " is private", Modifier.isPrivate(field.getModifiers()));
            Due.holds(field + " has a type of rule 2", FIELD_TYPES.contains(type));
            if (Modifier.isStatic(field.getModifiers())) {
                Due.holds(field + " is a constant int or long",
                    Modifier.isFinal(field.getModifiers()) && (type.equals("int") || type.equals("long")));
            }
        }
    }
}
