import java.io.IOException;
import java.lang.reflect.InvocationTargetException;
import java.lang.reflect.Method;
import java.lang.reflect.Modifier;
import java.nio.charset.StandardCharsets;
import java.nio.file.Files;
import java.nio.file.Path;
import java.util.Set;
import java.util.TreeSet;
import java.util.regex.Matcher;
import java.util.regex.Pattern;
import java.util.stream.Collectors;
import java.util.stream.Stream;

/** What README.md tells: its examples' answers, the calls in the document's words, and the tests there are. */
public final class ReadmeTest {
    private static final Path PROJECT = Path.of(System.getProperty("project", "."));
    private static final Pattern NEW = Pattern.compile("ConicDesk (\\w+) = new ConicDesk\\(\\);");
    private static final Pattern CALL = Pattern.compile("desk\\.(\\w+)\\(([^)]*)\\); *// (\\w+|-\\d+)(:.*)?");
    private static final Pattern LISTED = Pattern.compile("- `(ConicDesk\\(\\)|(?:int|boolean) (\\w+)\\([^)]*\\))`: (.*)");
    private static final Pattern PROMISED = Pattern.compile("`(ConicDesk\\(\\)|(?:int|boolean) \\w+\\([^)]*\\))`: (.*)");

    public static void main(String[] args) throws Exception {
        String readme = Files.readString(PROJECT.resolve("README.md"), StandardCharsets.UTF_8);
        Set<String> face = face();
        examples(readme, face);
        calls(readme, face);
        tests(readme);
        Due.end("ReadmeTest");
    }

    private static Set<String> face() {
        return Stream.of(ConicDesk.class.getDeclaredMethods()).filter(method -> Modifier.isPublic(method.getModifiers()))
            .map(Method::getName).collect(Collectors.toCollection(TreeSet::new));
    }

    /** Each line of a ```java block is a call, on one desk for them all, with its answer behind it. */
    private static void examples(String readme, Set<String> face) throws ReflectiveOperationException {
        ConicDesk desk = null;
        Set<String> called = new TreeSet<>();
        boolean java = false;
        int calls = 0;
        for (String line : readme.split("\n")) {
            if (line.startsWith("```")) {
                java = line.equals("```java");
            } else if (java && NEW.matcher(line).matches()) {
                Due.holds("one desk is made", desk == null);
                desk = new ConicDesk();
            } else if (java) {
                Matcher call = CALL.matcher(line);
                boolean told = call.matches() && desk != null && face.contains(call.group(1));
                Due.holds("a call with its answer: " + line, told);
                if (told) {
                    Due.is(line, answer(desk, call.group(1), call.group(2)), due(call.group(3)));
                    called.add(call.group(1));
                    calls++;
                }
            }
        }
        Due.holds("each call is shown: " + called, called.equals(face));
        Due.holds("calls of one desk: " + calls, calls <= 512);
    }

    private static int answer(ConicDesk desk, String name, String list) throws ReflectiveOperationException {
        String[] words = list.isEmpty() ? new String[0] : list.split(", ");
        for (Method method : ConicDesk.class.getDeclaredMethods()) {
            if (method.getName().equals(name) && method.getParameterCount() == words.length) {
                Object[] values = new Object[words.length];
                for (int k = 0; k < words.length; k++) {
                    values[k] = method.getParameterTypes()[k] == boolean.class ? (Object) truth(words[k]) : (Object) due(words[k]);
                }
                Object answer = invoked(method, desk, values);
                return answer instanceof Boolean ? (Boolean) answer ? 1 : 0 : (Integer) answer;
            }
        }
        throw new IllegalArgumentException("no call " + name + "(" + list + ")");
    }

    private static Object invoked(Method method, ConicDesk desk, Object[] values) throws ReflectiveOperationException {
        try {
            return method.invoke(desk, values);
        } catch (InvocationTargetException thrown) {
            throw new IllegalStateException(method + " threw", thrown.getCause());
        }
    }

    private static boolean truth(String word) {
        Due.holds("true or false: " + word, word.equals("true") || word.equals("false"));
        return word.equals("true");
    }

    /** A number as the page tells it; true counts 1, false 0. */
    private static int due(String word) {
        switch (word) {
            case "NONE":
            case "ConicDesk.NONE":
                return ConicDesk.NONE;
            case "UNKNOWN":
                return ConicDesk.UNKNOWN;
            case "true":
                return 1;
            case "false":
                return 0;
            default:
                return Integer.decode(word);
        }
    }

    /** The page lists each call once, with just the words that the document has for it. */
    private static void calls(String readme, Set<String> face) throws IOException {
        Set<String> promised = new TreeSet<>();
        for (String line : Due.document()) {
            if (PROMISED.matcher(line).matches()) {
                promised.add(line);
            }
        }
        Set<String> listed = new TreeSet<>();
        Set<String> names = new TreeSet<>();
        int lines = 0;
        for (String line : readme.split("\n")) {
            Matcher entry = LISTED.matcher(line);
            if (entry.matches()) {
                listed.add(line.substring(2));
                names.add(entry.group(2) == null ? "" : entry.group(2));
                lines++;
            }
        }
        Due.is("calls that are listed", lines, face.size() + 1);
        names.remove("");
        Due.holds("each call is listed: " + names, names.equals(face));
        for (String line : listed) {
            Due.holds("in the document's words: " + line, promised.isEmpty() || promised.contains(line));
        }
    }

    /** The page names each test that there is, and none besides. */
    private static void tests(String readme) throws IOException {
        Set<String> named = new TreeSet<>();
        Matcher name = Pattern.compile("`(\\w+Test)`").matcher(readme);
        while (name.find()) {
            named.add(name.group(1));
        }
        Set<String> there = new TreeSet<>();
        try (Stream<Path> files = Files.list(PROJECT.resolve("src/test/java"))) {
            files.map(file -> file.getFileName().toString()).filter(file -> file.endsWith("Test.java"))
                .forEach(file -> there.add(file.substring(0, file.length() - ".java".length())));
        }
        there.removeAll(named);
        Due.holds("tests that the page does not name: " + there, there.isEmpty());
        named.removeIf(test -> Files.exists(PROJECT.resolve("src/test/java/" + test + ".java")));
        named.remove("Test");
        Due.holds("named tests that there are not: " + named, named.isEmpty());
    }
}
