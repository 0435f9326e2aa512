import java.io.IOException;
import java.lang.reflect.InvocationTargetException;
import java.lang.reflect.Method;
import java.nio.charset.StandardCharsets;
import java.nio.file.Files;
import java.nio.file.Path;
import java.util.ArrayList;
import java.util.Arrays;
import java.util.Comparator;
import java.util.LinkedHashMap;
import java.util.List;
import java.util.Map;

/**
 * Every sentence of the document by itself: each method of the classes below that bears a Sentence is a test of that one
 * sentence at its edges. The sentences are held against the document too: what is quoted stands there, and what stands
 * there is quoted.
 */
public final class EdgesTest {
    private static final Class<?>[] CLASSES = {
        EdgesOfTheHouse.class, EdgesOfAMinute.class, EdgesOfThought.class, EdgesOfTexts.class, EdgesOfSheets.class,
        EdgesOfThingCalls.class, EdgesOfRoomCalls.class, EdgesOfWhatWillBeCalls.class, EdgesOfTextCalls.class,
        EdgesOfSheetCalls.class, EdgesOfRowCalls.class
    };
    private static final Path TESTS = Path.of("src/test/java");
    private static final Path DOCUMENT = Path.of("../shared/DOC.md");
    private static final int PROMISES = 48;
    private static final int POINTS = 5;

    private EdgesTest() {
    }

    public static void main(String[] args) throws Exception {
        boolean alone = args.length > 0 && args[0].equals("alone");
        int held = 0;
        int calls = 0;
        List<Method> tests = tests();
        for (Method test : tests) {
            Due due = new Due(test.getDeclaringClass().getSimpleName() + "." + test.getName());
            run(test, due);
            held += due.passed() ? 1 : 0;
            calls += due.calls();
            if (!due.passed()) {
                Sentence sentence = test.getAnnotation(Sentence.class);
                System.out.println("  " + sentence.of() + " says: " + sentence.says());
                if (alone) {
                    System.exit(1);
                }
            }
        }
        System.out.println("EdgesTest: " + held + " of " + tests.size() + " tests of a sentence hold, by " + calls + " answers");
        Due words = new Due("EdgesTest, the document's words");
        if (!alone) {
            allAreListed(words);
            wordsOfTheDocument(words, tests);
        }
        if (held < tests.size() || !alone && !words.passed()) {
            System.exit(1);
        }
    }

    private static void run(Method test, Due due) throws IllegalAccessException {
        try {
            test.invoke(null, due);
        } catch (InvocationTargetException e) {
            due.is("it ended by " + e.getCause(), 1, 0);
        }
    }

    private static List<Method> tests() {
        List<Method> tests = new ArrayList<>();
        for (Class<?> one : CLASSES) {
            Method[] methods = one.getDeclaredMethods();
            Arrays.sort(methods, Comparator.comparing(Method::getName));
            for (Method method : methods) {
                if (method.isAnnotationPresent(Sentence.class)) {
                    tests.add(method);
                }
            }
        }
        return tests;
    }

    private static void allAreListed(Due due) throws IOException {
        try (var files = Files.list(TESTS)) {
            long there = files.filter(file -> file.getFileName().toString().startsWith("EdgesOf")).count();
            due.is("classes of edges that are run", CLASSES.length, (int) there);
        }
    }

    /** Each quoted sentence stands where it is said to stand, and no word of the terms and promises is left unquoted. */
    private static void wordsOfTheDocument(Due due, List<Method> tests) throws IOException {
        if (!Files.isReadable(DOCUMENT)) {
            System.out.println("EdgesTest: the document is not here; its words are not looked at");
            due.holds("nothing to hold", true);
            return;
        }
        Map<String, char[]> left = sections(Files.readString(DOCUMENT, StandardCharsets.UTF_8));
        Map<String, String> whole = new LinkedHashMap<>();
        left.forEach((name, text) -> whole.put(name, new String(text)));
        for (Method test : tests) {
            Sentence sentence = test.getAnnotation(Sentence.class);
            int from = whole.getOrDefault(sentence.of(), "").indexOf(sentence.says());
            due.holds(test.getName() + ": '" + sentence.says() + "' stands in " + sentence.of(), from >= 0);
            if (from >= 0) {
                Arrays.fill(left.get(sentence.of()), from, from + sentence.says().length(), ' ');
            }
        }
        left.forEach((name, text) -> due.holds(name + ": not quoted: " + shown(text), shown(text).isEmpty()));
    }

    private static String shown(char[] text) {
        String rest = new String(text).replaceAll("\\s+", " ").trim();
        return rest.matches(".*[A-Za-z0-9].*") ? rest : "";
    }

    private static Map<String, char[]> sections(String document) {
        Map<String, char[]> sections = new LinkedHashMap<>();
        sections.put("What it is", between(document, "An object is used", "\n"));
        sections.put("Terms", between(document, "All numbers are whole", "======== 1"));
        for (int k = 1; k <= POINTS; k++) {
            String point = "======== " + k;
            String text = new String(between(document, point, k < POINTS ? "======== " + (k + 1) : "Ahead of the calls"));
            sections.put("Terms " + k, text.substring(point.length()).replace("```text", "").replace("```", "").toCharArray());
        }
        for (int n = 1; n <= PROMISES; n++) {
            String text = new String(between(document + "\n## ", "## Promise " + n + ":", "\n## "));
            sections.put("Promise " + n, text.substring(text.indexOf("`: ") + 3).toCharArray());
        }
        return sections;
    }

    private static char[] between(String document, String first, String behind) {
        int from = document.indexOf(first);
        int to = document.indexOf(behind, from + first.length());
        return document.substring(from, to).toCharArray();
    }
}
