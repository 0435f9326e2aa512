import java.io.IOException;
import java.io.OutputStream;
import java.nio.file.Files;
import java.nio.file.Path;
import java.util.ArrayList;
import java.util.List;
import java.util.concurrent.ExecutorService;
import java.util.concurrent.Executors;
import java.util.concurrent.Future;
import java.util.concurrent.TimeUnit;
import java.util.regex.Matcher;
import java.util.regex.Pattern;
import javax.tools.JavaCompiler;
import javax.tools.ToolProvider;

/**
 * Breaks the class in one small way after another and tells which breaks no test of a sentence finds. Behind .ci/run:
 * java tools/Mutants.java [a test, EdgesTest if none is named] [the first line] [the last line]
 */
public final class Mutants {
    private static final Path SOURCE = Path.of("src/main/java/CopiedFire.java");
    private static final Path OUT = Path.of("build/mutants");
    private static final int SECONDS = 60;
    /** What is looked for, and what is put there instead; # stands for a number that is made by code. */
    private static final String[][] WAYS = {
        {" < ", " <= "}, {" <= ", " < "}, {" > ", " >= "}, {" >= ", " > "}, {" == ", " != "}, {" != ", " == "},
        {" < ", " >= "}, {" > ", " <= "}, {" && ", " || "}, {" \\|\\| ", " && "}, {" \\+ ", " - "}, {" - ", " + "},
        {" \\* ", " + "}, {" / ", " * "}, {" % ", " / "}, {" >>> ", " >> "}, {" \\+= ", " -= "}, {" -= ", " += "},
        {" & ", " | "}, {" \\| ", " & "}, {" << ", " >> "}, {"\\+\\+", "--"}, {"Math\\.min", "Math.max"},
        {"Math\\.max", "Math.min"}, {"!(?=[a-z])", ""}, {"\\bBAD\\b", "NO"}, {"\\bNO\\b", "BAD"}, {"\\bFULL\\b", "BAD"},
        {"\\bNONE\\b", "BAD"}, {"\\bNOTHING\\b", "BAD"}, {"\\bKIND\\b", "BAD"}, {"\\bINDEX\\b", "BAD"},
        {"\\bSIZE\\b", "BAD"}, {"\\b\\d+\\b", "#+"}, {"\\b\\d+\\b", "#-"}, {"'.'", "#c"}, {"\\btrue\\b", "false"},
        {"\\bfalse\\b", "true"}, {"^( *)[a-z][\\w.\\[\\]]*( [-+]?= .*|\\+\\+|\\(.*\\));$", "$1;"}, {"^ *return [^;]*;$", "#r"}
    };

    private Mutants() {
    }

    /** So many lines from that line on (from 0), and what stands there instead. */
    private record Mutant(int line, int many, List<String> code) {
    }

    public static void main(String[] args) throws Exception {
        String test = args.length > 0 ? args[0] : "EdgesTest";
        List<String> lines = Files.readAllLines(SOURCE);
        int first = args.length > 1 ? Integer.parseInt(args[1]) : 1;
        int last = args.length > 2 ? Integer.parseInt(args[2]) : lines.size();
        List<Mutant> mutants = new ArrayList<>();
        for (int i = first - 1; i < last; i++) {
            addAll(mutants, i, lines.get(i));
            addWithout(mutants, i, lines.get(i));
            addSwapped(mutants, i, lines);
        }
        ExecutorService workers = Executors.newFixedThreadPool(Math.max(1, Runtime.getRuntime().availableProcessors()));
        List<Future<String>> verdicts = new ArrayList<>();
        for (int i = 0; i < mutants.size(); i++) {
            int number = i;
            verdicts.add(workers.submit(() -> verdict(number, mutants.get(number), lines, test)));
        }
        int found = 0;
        int dead = 0;
        for (int i = 0; i < mutants.size(); i++) {
            String verdict = verdicts.get(i).get();
            found += verdict.equals("found") ? 1 : 0;
            dead += verdict.equals("no code") ? 1 : 0;
            if (verdict.equals("NOT FOUND")) {
                Mutant mutant = mutants.get(i);
                System.out.println(mutant.line + 1 + ": " + lines.get(mutant.line).trim());
                mutant.code.forEach(line -> System.out.println("      -> " + line.trim()));
            }
        }
        workers.shutdown();
        System.out.println(mutants.size() - dead + " breaks, " + found + " found by " + test);
    }

    private static void addAll(List<Mutant> mutants, int line, String code) {
        String trimmed = code.trim();
        if (trimmed.startsWith("/*") || trimmed.startsWith("*") || trimmed.startsWith("//") || trimmed.startsWith("import")) {
            return;
        }
        for (String[] way : WAYS) {
            Matcher m = Pattern.compile(way[0]).matcher(code);
            while (m.find()) {
                String there = put(m, way[1], code);
                if (!there.equals(code)) {
                    mutants.add(new Mutant(line, 1, List.of(there)));
                }
            }
        }
    }

    /** Each of several conditions left out. */
    private static void addWithout(List<Mutant> mutants, int line, String code) {
        Matcher m = Pattern.compile("\\bif \\((.*)\\) \\{$").matcher(code);
        if (!m.find()) {
            return;
        }
        for (String sign : new String[] {" || ", " && "}) {
            String whole = m.group(1);
            int from = 0;
            int depth = 0;
            for (int i = 0; i <= whole.length(); i++) {
                boolean end = i == whole.length();
                if (end || depth == 0 && whole.startsWith(sign, i)) {
                    String idle = sign.equals(" || ") ? "false" : "true";
                    String there = whole.substring(0, from) + idle + whole.substring(i);
                    mutants.add(new Mutant(line, 1, List.of(code.substring(0, m.start(1)) + there + code.substring(m.end(1)))));
                    from = i + sign.length();
                }
                depth += end ? 0 : whole.charAt(i) == '(' ? 1 : whole.charAt(i) == ')' ? -1 : 0;
            }
        }
    }

    /** Two statements, or two refusals, the other way round. */
    private static void addSwapped(List<Mutant> mutants, int line, List<String> lines) {
        for (int many = 1; many <= 3; many += 2) {
            if (line + 2 * many <= lines.size() && isOne(lines, line, many) && isOne(lines, line + many, many)
                    && indent(lines.get(line)) == indent(lines.get(line + many))) {
                List<String> code = new ArrayList<>(lines.subList(line + many, line + 2 * many));
                code.addAll(lines.subList(line, line + many));
                mutants.add(new Mutant(line, 2 * many, code));
            }
        }
    }

    private static boolean isOne(List<String> lines, int line, int many) {
        String first = lines.get(line).trim();
        if (many == 1) {
            return first.matches("[a-z].*;") && !first.matches("(private|public|return) .*");
        }
        return first.startsWith("if (") && first.endsWith("{") && lines.get(line + 1).trim().startsWith("return")
            && lines.get(line + 2).trim().equals("}");
    }

    private static int indent(String line) {
        return line.length() - line.stripLeading().length();
    }

    private static String put(Matcher m, String way, String code) {
        String old = m.group();
        String put = way;
        if (way.equals("#+") || way.equals("#-")) {
            put = String.valueOf(Long.parseLong(old) + (way.equals("#+") ? 1 : -1));
        } else if (way.equals("#c")) {
            put = "'" + (char) (old.charAt(1) + 1) + "'";
        } else if (way.equals("#r")) {
            put = old.substring(0, old.indexOf("return")) + "return 3;";
        } else if (way.equals("$1;")) {
            put = m.group(1) + ";";
        }
        return code.substring(0, m.start()) + put + code.substring(m.end());
    }

    private static String verdict(int number, Mutant mutant, List<String> lines, String test) throws Exception {
        Path dir = OUT.resolve(String.valueOf(number));
        Files.createDirectories(dir);
        Path file = dir.resolve("CopiedFire.java");
        List<String> broken = new ArrayList<>(lines);
        broken.subList(mutant.line, mutant.line + mutant.many).clear();
        broken.addAll(mutant.line, mutant.code);
        Files.write(file, broken);
        JavaCompiler compiler = ToolProvider.getSystemJavaCompiler();
        OutputStream nowhere = OutputStream.nullOutputStream();
        int built = compiler.run(null, nowhere, nowhere, "-d", dir.toString(), file.toString());
        String verdict = built != 0 ? "no code" : passes(dir, test) ? "NOT FOUND" : "found";
        delete(dir);
        return verdict;
    }

    private static boolean passes(Path dir, String test) throws Exception {
        String path = dir + System.getProperty("path.separator") + "build/own";
        Process run = new ProcessBuilder("java", "-XX:TieredStopAtLevel=1", "-cp", path, test, "alone")
            .redirectErrorStream(true).redirectOutput(ProcessBuilder.Redirect.DISCARD).start();
        if (!run.waitFor(SECONDS, TimeUnit.SECONDS)) {
            run.destroyForcibly();
            return false;
        }
        return run.exitValue() == 0;
    }

    private static void delete(Path dir) throws IOException {
        try (var files = Files.list(dir)) {
            for (Path file : (Iterable<Path>) files::iterator) {
                Files.delete(file);
            }
        }
        Files.delete(dir);
    }
}
