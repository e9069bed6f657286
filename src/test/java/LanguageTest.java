import java.io.IOException;
import java.nio.file.Files;
import java.nio.file.Path;
import java.util.Map;
import java.util.Set;
import java.util.TreeMap;
import java.util.TreeSet;
import java.util.regex.Matcher;
import java.util.regex.Pattern;

/** What of LANGUAGE.md can be seen from the source as it is laid out here. Run from the project's directory. */
public final class LanguageTest {

    private static final String[] RULED_OUT = {
        "package", "import", "throw", "throws", "try", "catch", "finally", "synchronized", "assert", "instanceof",
        "null", "float", "double", "interface", "enum", "record", "protected", "var", "String", "Math", "Integer",
        "Long", "Object", "System", "Arrays", "super", "getClass", "hashCode", "equals", "toString", "->", "::", "\""
    };

    private static final Pattern METHOD =
        Pattern.compile("^    (?:public|private)[\\w\\[\\] ]* (\\w+)\\(([^)]*)\\) \\{\n(.*?)^    \\}\n",
            Pattern.MULTILINE | Pattern.DOTALL);
    private static final Pattern ARRAY_FIELD =
        Pattern.compile("^    private final (\\w+)\\[\\] \\w+ = new \\1\\[(?:[A-Z_]+|[1-9][0-9]*)\\];",
            Pattern.MULTILINE);
    private static final Pattern COUNTING =
        Pattern.compile("\\bfor \\(int (\\w+) = [^;]+; \\1 <=? (?:held|both|[A-Z_]+); \\1\\+\\+\\) \\{");

    /** Each method's body by its name. */
    private static final Map<String, String> bodies = new TreeMap<>();

    public static void main(String[] args) throws IOException {
        String source = Files.readString(Path.of("src/main/java/ItemSets.java"));
        String code = source.replaceAll("(?s)/\\*.*?\\*/", " ").replaceAll("//[^\n]*", " ");
        words(code);
        arrays(code);
        findMethods(code);
        loops(code);
        calls();
        Due.end();
    }

    private static void words(String code) {
        Due.says("LANGUAGE.md, rules 1, 2, 3, 6 and 11");
        for (String word : RULED_OUT) {
            Due.holds("the code does not use " + word, count(wordPattern(word), code) == 0);
        }
        Due.is("classes", count(wordPattern("class"), code), 1);
        Due.says("LANGUAGE.md, rule 5");
        Due.is("static initialisers", count(Pattern.compile("\\bstatic\\s*\\{"), code), 0);
    }

    private static Pattern wordPattern(String word) {
        String edge = Character.isLetter(word.charAt(0)) ? "\\b" : "";
        return Pattern.compile(edge + Pattern.quote(word) + edge);
    }

    private static void arrays(String code) {
        Due.says("LANGUAGE.md, rule 4");
        Due.is("arrays and objects not made in a field's initialiser",
            count(wordPattern("new"), code) - count(ARRAY_FIELD, code), 0);
        Pattern anyArrayField = Pattern.compile("^    private [\\w ]+\\[\\] \\w+( =.*)?;", Pattern.MULTILINE);
        Due.is("array fields without such an initialiser", count(anyArrayField, code) - count(ARRAY_FIELD, code), 0);
    }

    private static void findMethods(String code) {
        Due.says("LANGUAGE.md, rules 1 and 10");
        Matcher method = METHOD.matcher(code);
        while (method.find()) {
            String name = method.group(1);
            Due.holds("one method alone is called " + name, bodies.put(name, method.group(3)) == null);
            Due.holds(name + " has at most seven parameters", method.group(2).split(",").length <= 7);
            Due.holds(name + " has at most sixty lines", method.group(0).split("\n").length <= 60);
        }
        Due.is("methods and constructors found", bodies.size(), ItemSets.class.getDeclaredMethods().length + 1);
    }

    private static void loops(String code) {
        Due.says("LANGUAGE.md, rule 8");
        Due.is("loops that do not count up to a bound", count(wordPattern("for"), code) - count(COUNTING, code), 0);
        Due.is("while loops, which this class does without", count(wordPattern("while"), code), 0);
    }

    private static void calls() {
        Map<String, Set<String>> called = new TreeMap<>();
        for (Map.Entry<String, String> body : bodies.entrySet()) {
            called.put(body.getKey(), callsIn(body.getKey(), body.getValue()));
        }
        Due.says("LANGUAGE.md, rules 8 and 10");
        Set<String> reached = bodies.keySet();
        for (int deep = 1; deep <= 6; deep++) {
            Set<String> next = new TreeSet<>();
            reached.forEach(name -> next.addAll(called.get(name)));
            reached = next;
        }
        Due.same("methods that a call reaches more than six deep or by recursion", reached.toString(), "[]");
    }

    /** The methods that a body calls; no call may stand inside the arguments of another. */
    private static Set<String> callsIn(String name, String body) {
        Set<String> called = new TreeSet<>();
        for (String callee : bodies.keySet()) {
            Matcher call = Pattern.compile("\\b" + callee + "\\(").matcher(body);
            while (call.find()) {
                called.add(callee);
                String arguments = argumentsFrom(body, call.end());
                Due.says("LANGUAGE.md, rule 10");
                Due.is("calls inside the arguments of " + callee + " in " + name,
                    count(Pattern.compile("\\w\\s*\\("), arguments), 0);
            }
        }
        return called;
    }

    private static String argumentsFrom(String body, int start) {
        int open = 1;
        int end = start;
        while (open > 0) {
            open += body.charAt(end) == '(' ? 1 : body.charAt(end) == ')' ? -1 : 0;
            end++;
        }
        return body.substring(start, end - 1);
    }

    private static long count(Pattern pattern, String text) {
        return pattern.matcher(text).results().count();
    }
}
