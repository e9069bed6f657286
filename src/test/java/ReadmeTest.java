import java.io.IOException;
import java.lang.reflect.Method;
import java.lang.reflect.Modifier;
import java.nio.file.Files;
import java.nio.file.Path;
import java.util.ArrayList;
import java.util.HashMap;
import java.util.List;
import java.util.Map;
import java.util.Set;
import java.util.TreeSet;
import java.util.regex.Matcher;
import java.util.regex.Pattern;
import java.util.stream.Stream;

/** Makes every call that README.md shows; its answer must be the number behind it. Run from the project's directory. */
public final class ReadmeTest {

    private static final Pattern BLOCK = Pattern.compile("```\\w*\n(.*?)```", Pattern.DOTALL);
    private static final Pattern MAKING = Pattern.compile("ItemSets (\\w+) = new ItemSets\\(\\);");
    private static final Pattern CALL = Pattern.compile("(\\w+)\\.(\\w+)\\(([-0-9, ]+)\\); *// (-?[0-9]+)(: .*)?");
    private static final Pattern TEST = Pattern.compile("^- `(\\w+Test)`", Pattern.MULTILINE);

    private static final Map<String, Method> METHODS = new HashMap<>();
    private static final Set<String> shown = new TreeSet<>();

    public static void main(String[] args) throws IOException, ReflectiveOperationException {
        for (Method method : ItemSets.class.getDeclaredMethods()) {
            if (Modifier.isPublic(method.getModifiers())) {
                METHODS.put(method.getName(), method);
            }
        }
        String readme = Files.readString(Path.of("README.md"));
        Matcher block = BLOCK.matcher(readme);
        while (block.find()) {
            playBlock(block.group(1));
        }
        Due.same("methods that README.md shows", shown.toString(), new TreeSet<>(METHODS.keySet()).toString());
        atMostForty();
        Due.holds("README.md tells how to run the tests", readme.contains("\n    .ci/run\n"));
        Due.same("tests that README.md names", namedTests(readme).toString(), testFiles().toString());
        Due.end();
    }

    private static void playBlock(String block) throws ReflectiveOperationException {
        Map<String, ItemSets> objects = new HashMap<>();
        for (String line : block.split("\n")) {
            Matcher making = MAKING.matcher(line);
            Matcher call = CALL.matcher(line);
            if (making.matches()) {
                objects.put(making.group(1), new ItemSets());
            } else if (call.matches() && objects.containsKey(call.group(1)) && METHODS.containsKey(call.group(2))) {
                playCall(objects.get(call.group(1)), call);
            } else if (!line.isBlank()) {
                Due.holds("this line of README.md can be run: " + line, false);
            }
        }
    }

    private static void playCall(ItemSets object, Matcher call) throws ReflectiveOperationException {
        List<Object> numbers = new ArrayList<>();
        for (String number : call.group(3).split(", *")) {
            numbers.add(Integer.valueOf(number));
        }
        Method method = METHODS.get(call.group(2));
        shown.add(method.getName());
        int answer = (int) method.invoke(object, numbers.toArray());
        Due.is("README.md: " + method.getName() + "(" + call.group(3) + ")", answer, Integer.parseInt(call.group(4)));
    }

    private static void atMostForty() {
        Due.is("README.md: at most 40 are held", Made.of(39, 7).add(7), 40);
        Due.is("README.md: else -1", Made.of(40, 7).add(7), -1);
    }

    private static Set<String> namedTests(String readme) {
        Set<String> names = new TreeSet<>();
        Matcher test = TEST.matcher(readme);
        while (test.find()) {
            names.add(test.group(1));
        }
        return names;
    }

    private static Set<String> testFiles() throws IOException {
        Set<String> names = new TreeSet<>();
        try (Stream<Path> files = Files.list(Path.of("src/test/java"))) {
            files.map(file -> file.getFileName().toString())
                .filter(name -> name.endsWith("Test.java"))
                .forEach(name -> names.add(name.substring(0, name.length() - ".java".length())));
        }
        return names;
    }
}
