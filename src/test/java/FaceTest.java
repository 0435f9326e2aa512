import java.lang.reflect.Constructor;
import java.lang.reflect.Field;
import java.lang.reflect.Member;
import java.lang.reflect.Method;
import java.lang.reflect.Modifier;
import java.nio.charset.StandardCharsets;
import java.nio.file.Files;
import java.nio.file.Path;
import java.util.Arrays;
import java.util.Set;
import java.util.TreeSet;
import java.util.regex.Matcher;
import java.util.regex.Pattern;

/** The public face as the document has it, and those of LANGUAGE.md's rules that a text can be held against. */
public final class FaceTest {
    private static final Due due = new Due("FaceTest");
    private static final String FACE = "thing4 told2 as2 turns2 set3 deal1 seed1 heat1 heats2 door3 doorTold2 rule2 visitor1 "
        + "likes2 seats1 way2 minutes1 house1 behind2 out0 hot1 shut2 hired2 becomes3 began1 like2 fee0 fine1 feed3 trim1 "
        + "text0 textTold2 why1 sheet3 mark3 pour1 reads1 copy5 lay3 ask2 item2 rest2 tell1 check1 keep0 back0 count1";
    private static final String[] LEFT_OUT = {
        "throw", "throws", "try", "catch", "finally", "synchronized", "assert", "native", "volatile", "transient", "double",
        "var", "yield", "package", "protected", "super", "hashCode", "toString", "Object", "Exception"
    };

    public static void main(String[] args) throws Exception {
        constants();
        members();
        classesInside();
        source();
        due.end();
    }

    private static void constants() throws Exception {
        String[] names = {"BAD", "NO", "FULL", "NONE", "NOTHING", "KIND", "INDEX", "SIZE"};
        int[] values = {
            -1000000001, -1000000002, -1000000003, -1000000005, -1000000011, -1000000012, -1000000013, -1000000014
        };
        Set<String> open = new TreeSet<>();
        for (Field field : CopiedFire.class.getDeclaredFields()) {
            if (!Modifier.isPrivate(field.getModifiers())) {
                open.add(field.getName());
            }
            due.holds(field.getName() + " is final if static",
                !Modifier.isStatic(field.getModifiers()) || Modifier.isFinal(field.getModifiers()));
        }
        due.holds("no other open field: " + open, open.equals(new TreeSet<>(Set.of(names))));
        for (int i = 0; i < names.length; i++) {
            Field field = CopiedFire.class.getField(names[i]);
            due.is(names[i], field.getInt(null), values[i]);
        }
    }

    private static void members() {
        due.holds("public and final", (CopiedFire.class.getModifiers() & (Modifier.PUBLIC | Modifier.FINAL)) == 17);
        Constructor<?>[] made = CopiedFire.class.getDeclaredConstructors();
        due.holds("one public constructor",
            made.length == 1 && made[0].getParameterCount() == 0 && Modifier.isPublic(made[0].getModifiers()));
        Set<String> open = new TreeSet<>();
        Set<String> closed = new TreeSet<>();
        for (Method method : CopiedFire.class.getDeclaredMethods()) {
            if (isOpen(method)) {
                open.add(method.getName() + method.getParameterCount());
                due.holds(method + " answers an int and is no static one",
                    method.getReturnType() == int.class && method.getModifiers() == Modifier.PUBLIC);
            } else {
                closed.add(method.getName());
            }
            due.holds(method + " takes seven at most", method.getParameterCount() <= 7);
        }
        due.holds("just the document's methods", open.equals(new TreeSet<>(Set.of(FACE.split(" ")))));
        for (String name : FACE.split(" ")) {
            due.holds("no private " + name, !closed.contains(name.substring(0, name.length() - 1)));
        }
    }

    private static boolean isOpen(Member member) {
        return !Modifier.isPrivate(member.getModifiers());
    }

    private static void classesInside() {
        Class<?>[] inside = CopiedFire.class.getDeclaredClasses();
        due.holds("twelve classes at most", inside.length + 1 <= 12);
        for (Class<?> one : inside) {
            int how = one.getModifiers();
            due.holds(one + " is static", Modifier.isStatic(how));
            due.holds(one + " is not public", !Modifier.isPublic(how) && !Modifier.isProtected(how));
            int fields = 0;
            for (Field field : one.getDeclaredFields()) {
                fields += Modifier.isStatic(field.getModifiers()) ? 0 : 1;
            }
            due.holds(one + " has some twenty fields at most", fields <= 20);
            for (Method method : one.getDeclaredMethods()) {
                due.holds(method + " takes seven at most", method.getParameterCount() <= 7);
                due.holds(method + " bears no public name", !(" " + FACE).matches(".* " + method.getName() + "[0-9].*"));
            }
        }
    }

    private static void source() throws Exception {
        String all = new String(Files.readAllBytes(Path.of("src/main/java/CopiedFire.java")), StandardCharsets.ISO_8859_1);
        due.holds("plain signs alone", all.chars().allMatch(c -> c == '\n' || c >= 32 && c < 127));
        String code = all.replaceAll("(?s)/\\*.*?\\*/", "").replaceAll("//[^\n]*", "").replaceAll("\"[^\"\n]*\"", "\"\"");
        for (String word : LEFT_OUT) {
            due.holds("no " + word, !Pattern.compile("\\b" + word + "\\b").matcher(code).find());
        }
        due.holds("no lambda", !code.contains("->"));
        due.holds("no method reference", !code.contains("::"));
        due.holds("no static block", !Pattern.compile("static\\s*\\{").matcher(code).find());
        due.holds("one import", Pattern.compile("import [^;]*;").matcher(code).results().count() == 1);
        methodsAreShort(code);
    }

    private static void methodsAreShort(String code) {
        String[] lines = code.split("\n");
        Pattern head = Pattern.compile("^( {4}| {8})(public|private|static|void|int|boolean|[A-Z]\\w*)\\b.*\\) \\{$");
        int methods = 0;
        for (int i = 0; i < lines.length; i++) {
            Matcher m = head.matcher(lines[i]);
            if (m.matches()) {
                int end = i;
                while (end < lines.length && !lines[end].equals(m.group(1) + "}")) {
                    end++;
                }
                methods++;
                due.holds("short: " + lines[i].trim(), end - i < 60);
                makesNothing(lines[i].trim(), String.join("\n", Arrays.asList(lines).subList(i, end)));
            }
        }
        due.holds("methods were found", methods > 80);
    }

    /** All calls of a run share one room: rows are made by constructors, and by a call only the one text that it takes. */
    private static void makesNothing(String head, String body) {
        boolean mayMake = head.matches("(public )?[A-Z]\\w*\\(.*") || head.startsWith("Text madeText(");
        due.holds("makes nothing: " + head, mayMake || !Pattern.compile("\\bnew\\b|copyOf|clone").matcher(body).find());
    }
}
