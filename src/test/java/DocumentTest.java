import java.io.IOException;
import java.nio.charset.StandardCharsets;
import java.nio.file.Files;
import java.nio.file.Path;
import java.util.ArrayList;
import java.util.List;
import java.util.Map;
import java.util.TreeMap;
import java.util.regex.Matcher;
import java.util.regex.Pattern;
import java.util.stream.Collectors;
import java.util.stream.Stream;

/** Whether each sentence of the document is quoted by a test that stands for it, and each quote stands in the document. */
public final class DocumentTest {
    private static final Path PROJECT = Path.of(System.getProperty("project", "."));
    private static final Pattern HEADING = Pattern.compile("## (Promise \\d+|[^:]*)(:.*)?");
    private static final Pattern TERM = Pattern.compile("([123])\\. (.*)");
    private static final Pattern SIGNED = Pattern.compile("`(?:ConicDesk\\(\\)|(?:int|boolean) \\w+\\([^)]*\\))`: (.*)");
    private static final Pattern AHEAD = Pattern.compile("Ahead of the calls .* the interface says: (.*)");
    private static final Pattern TEXT = Pattern.compile("\"(?:[^\"\\\\]|\\\\.)*\"");
    private static final Pattern QUOTE = Pattern.compile("Due\\.sentence\\(\\s*(\\w+|\"[^\"]*\"),\\s*(" + TEXT + "(?:\\s*\\+\\s*" + TEXT + ")*)");
    private static final Pattern NAMED = Pattern.compile("String (\\w+) = \"([^\"]*)\"");

    /** The document's words, by where they stand, and which of them are quoted. */
    private final Map<String, String> words = new TreeMap<>();
    private final Map<String, boolean[]> quoted = new TreeMap<>();

    public static void main(String[] args) throws IOException {
        DocumentTest test = new DocumentTest();
        List<String> document = Due.document();
        if (document.isEmpty()) {
            Due.end("DocumentTest");
            return;
        }
        test.readDocument(document);
        List<Path> sources;
        try (Stream<Path> files = Files.list(PROJECT.resolve("src/test/java"))) {
            sources = files.filter(file -> file.toString().endsWith("Test.java")).sorted().collect(Collectors.toList());
        }
        for (Path source : sources) {
            test.readQuotes(source);
        }
        test.lookAtAll();
        Due.end("DocumentTest");
    }

    private void readDocument(List<String> document) {
        String where = "";
        for (String line : document) {
            Matcher heading = HEADING.matcher(line);
            Matcher term = TERM.matcher(line);
            Matcher signed = SIGNED.matcher(line);
            Matcher ahead = AHEAD.matcher(line);
            if (heading.matches()) {
                where = heading.group(1);
            } else if (where.startsWith("Terms") && term.matches()) {
                where = "Terms " + term.group(1);
                add(where, term.group(2));
            } else if (where.startsWith("Terms") && line.startsWith("The constants:")) {
                where = "The constants";
                add(where, line.substring("The constants:".length()));
            } else if (signed.matches()) {
                add(where, signed.group(1));
            } else if (ahead.matches()) {
                add(where, ahead.group(1));
            } else if (!line.startsWith("```")) {
                add(where, line);
            }
        }
        for (Map.Entry<String, String> entry : words.entrySet()) {
            quoted.put(entry.getKey(), new boolean[entry.getValue().length()]);
        }
    }

    private void add(String where, String line) {
        String before = words.getOrDefault(where, "");
        words.put(where, (before + " " + plain(line)).trim());
    }

    /** With one blank between any two words; the document's own '0 .. 2' is no gap in a quote. */
    private static String plain(String text) {
        return text.trim().replaceAll("\\s+", " ").replace("0 .. 2", "0 to 2");
    }

    private void readQuotes(Path source) throws IOException {
        String text = Files.readString(source, StandardCharsets.UTF_8);
        Map<String, String> names = new TreeMap<>();
        Matcher named = NAMED.matcher(text);
        while (named.find()) {
            names.put(named.group(1), named.group(2));
        }
        Matcher quote = QUOTE.matcher(text);
        while (quote.find()) {
            String first = quote.group(1);
            String where = first.startsWith("\"") ? first.substring(1, first.length() - 1) : names.getOrDefault(first, first);
            StringBuilder told = new StringBuilder();
            Matcher part = TEXT.matcher(quote.group(2));
            while (part.find()) {
                told.append(part.group(), 1, part.group().length() - 1);
            }
            look(source.getFileName() + ", " + where, where, plain(told.toString()));
        }
    }

    private void look(String source, String where, String quote) {
        Due.holds(source + ": the document has such a part", words.containsKey(where));
        if (words.containsKey(where)) {
            for (String part : quote.split(" ?\\.\\. ?")) {
                Due.holds(source + ": the document says there '" + part + "'", part.isEmpty() || mark(where, part));
            }
        }
    }

    private boolean mark(String where, String part) {
        boolean[] marks = quoted.get(where);
        int at = words.get(where).indexOf(part);
        boolean found = at >= 0;
        while (at >= 0) {
            for (int k = 0; k < part.length(); k++) {
                marks[at + k] = true;
            }
            at = words.get(where).indexOf(part, at + 1);
        }
        return found;
    }

    private void lookAtAll() {
        List<String> parts = new ArrayList<>(List.of("Terms 1", "Terms 2", "Terms 3", "The constants"));
        for (int promise = 1; promise <= 34; promise++) {
            parts.add("Promise " + promise);
        }
        for (String where : parts) {
            Due.holds("the document has " + where, words.containsKey(where));
            if (words.containsKey(where)) {
                Due.is(where + ": words without a test: " + left(where), left(where).length(), 0);
            }
        }
    }

    /** The words that no test quotes; signs alone need no test. */
    private String left(String where) {
        StringBuilder left = new StringBuilder();
        String all = words.get(where);
        boolean[] marks = quoted.get(where);
        for (int at = 0; at < all.length(); at++) {
            int end = at;
            while (end < all.length() && !marks[end]) {
                end++;
            }
            String run = all.substring(at, end).trim();
            if (run.matches(".*[A-Za-z0-9].*")) {
                left.append(left.length() == 0 ? "" : " | ").append(run);
            }
            at = Math.max(at, end);
        }
        return left.toString();
    }
}
