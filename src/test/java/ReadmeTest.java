import java.io.IOException;
import java.nio.charset.StandardCharsets;
import java.nio.file.Files;
import java.nio.file.Path;
import java.util.ArrayList;
import java.util.Arrays;
import java.util.List;
import java.util.TreeMap;
import java.util.TreeSet;
import java.util.regex.MatchResult;
import java.util.regex.Pattern;
import java.util.stream.Collectors;

/** README.md holds: its run of calls is run, its tables are held against the class, the document and the tests there are. */
public final class ReadmeTest {
    private static final Due due = new Due("ReadmeTest");
    private static final Path DOCUMENT = Path.of("../shared/DOC.md");
    private static final int PROMISED_CALLS = 47;
    private static final String REFUSALS = "BAD|NO|FULL|NONE|NOTHING|KIND|INDEX|SIZE";

    private ReadmeTest() {
    }

    public static void main(String[] args) throws Exception {
        String page = Files.readString(Path.of("README.md"), StandardCharsets.UTF_8);
        shortRun(page);
        numbersOfRefusals(page);
        List<MatchResult> rows = found("(?m)^\\| `(\\w+)\\((.*?)\\)` \\| (.*) \\| ?(.*?) ?\\|$", page);
        callsAreThoseOfTheClass(rows);
        refusalsAreThoseOfTheDocument(rows);
        kinds(page);
        texts(page);
        testsAreThoseThatThereAre(page);
        due.end();
    }

    private static List<MatchResult> found(String pattern, String text) {
        return Pattern.compile(pattern).matcher(text).results().collect(Collectors.toList());
    }

    // ---- the run

    private static void shortRun(String page) throws Exception {
        String run = page.substring(page.indexOf("## A short run"), page.indexOf("## What is refused"));
        List<MatchResult> calls = found("(?m)^x\\.(\\w+)\\((.*?)\\); +// (-?\\w+)(:.*)?$", run);
        due.is("lines with a call and its answer", calls.size(), found("(?m)^x\\.", run).size());
        due.holds("a run of some calls", calls.size() >= 20);
        CopiedFire x = new CopiedFire();
        for (MatchResult call : calls) {
            due.is("README: " + call.group(), answer(x, call.group(1), call.group(2)), number(call.group(3)));
        }
    }

    private static int answer(CopiedFire x, String name, String given) throws Exception {
        String[] words = given.isEmpty() ? new String[0] : given.split(", ");
        Object[] numbers = new Object[words.length];
        for (int i = 0; i < words.length; i++) {
            numbers[i] = number(words[i].replace("CopiedFire.", ""));
        }
        Class<?>[] types = new Class<?>[words.length];
        Arrays.fill(types, int.class);
        return (Integer) CopiedFire.class.getMethod(name, types).invoke(x, numbers);
    }

    private static int number(String word) throws ReflectiveOperationException {
        return word.matches(REFUSALS) ? CopiedFire.class.getField(word).getInt(null) : Integer.decode(word);
    }

    // ---- the tables

    private static void numbersOfRefusals(String page) throws ReflectiveOperationException {
        List<MatchResult> rows = found("(?m)^\\| `([A-Z]+)` \\| (-\\d+) \\|", page);
        List<String> names = new ArrayList<>();
        for (MatchResult row : rows) {
            names.add(row.group(1));
            due.is("README: " + row.group(1), Integer.parseInt(row.group(2)), number(row.group(1)));
        }
        due.holds("README tells each refusal once: " + names, String.join("|", names).equals(REFUSALS));
    }

    private static void callsAreThoseOfTheClass(List<MatchResult> rows) throws IOException {
        String source = Files.readString(Path.of("src/main/java/CopiedFire.java"), StandardCharsets.UTF_8);
        TreeSet<String> there = new TreeSet<>();
        for (MatchResult head : found("public int (\\w+)\\((.*?)\\)", source)) {
            there.add(head.group(1) + "(" + head.group(2).replace("int ", "") + ")");
        }
        TreeSet<String> told = new TreeSet<>();
        for (MatchResult row : rows) {
            told.add(row.group(1) + "(" + row.group(2) + ")");
            due.holds("README says what " + row.group(1) + " answers", row.group(3).length() > 10);
        }
        due.is("calls that README tells", rows.size(), PROMISED_CALLS);
        due.holds("README tells the calls of the class: " + told, told.equals(there));
    }

    /** The words in which a promise refuses, in their order; what stands in brackets with other words refuses nothing. */
    private static void refusalsAreThoseOfTheDocument(List<MatchResult> rows) throws IOException {
        if (!Files.isReadable(DOCUMENT)) {
            System.out.println("ReadmeTest: the document is not here; the refusals in README are not held against it");
            return;
        }
        TreeMap<String, String> promised = new TreeMap<>();
        String document = Files.readString(DOCUMENT, StandardCharsets.UTF_8);
        for (MatchResult promise : found("(?m)^`int (\\w+)\\(.*?\\)`: (.*)$", document)) {
            String words = promise.group(2).replaceAll("\\([^()]*[a-z][^()]*\\)", "");
            promised.put(promise.group(1), found("(?<=[.;(] ?|^)\\b(" + REFUSALS + ")\\b(?=[.:;)])", words).stream()
                .map(MatchResult::group).collect(Collectors.joining(", ")));
        }
        due.is("promises of a call", promised.size(), PROMISED_CALLS);
        for (MatchResult row : rows) {
            String refused = promised.get(row.group(1));
            due.holds("README: " + row.group(1) + " is refused by " + row.group(4) + "; the document: " + refused,
                row.group(4).equals(refused));
        }
    }

    private static void kinds(String page) {
        List<String> names = new ArrayList<>();
        for (MatchResult row : found("(?m)^\\| (\\d) (\\w+) \\| ?(\\w*) ?\\| .* \\| .* \\| (\\d+) \\| .* \\|$", page)) {
            int kind = Integer.parseInt(row.group(1));
            String above = row.group(3);
            names.add(row.group(2));
            CopiedFire x = new CopiedFire();
            x.thing(kind, 0, 20, 0);
            due.is("README: from when on a " + row.group(2) + " catches", Integer.parseInt(row.group(4)), x.told(0, 6));
            due.is("README: a " + row.group(2) + " is a " + above, x.as(0, above.isEmpty() ? kind : names.indexOf(above)), 20);
        }
        due.is("kinds that README tells", names.size(), 6);
    }

    private static void texts(String page) {
        List<MatchResult> texts = found("`((burn|fee|fine) [^`]*)`", page);
        due.is("texts that README shows", texts.size(), 3);
        for (MatchResult text : texts) {
            due.is("README: " + text.group(1), Due.text(new CopiedFire(), text.group(1)), 0);
        }
    }

    private static void testsAreThoseThatThereAre(String page) throws IOException {
        TreeSet<String> told = new TreeSet<>();
        found("(?m)^\\| (\\w+Test) \\|", page).forEach(row -> told.add(row.group(1) + ".java"));
        try (var files = Files.list(Path.of("src/test/java"))) {
            TreeSet<String> there = files.map(file -> file.getFileName().toString()).filter(name -> name.endsWith("Test.java"))
                .collect(Collectors.toCollection(TreeSet::new));
            due.holds("README tells the tests that there are: " + there, told.equals(there));
        }
    }
}
