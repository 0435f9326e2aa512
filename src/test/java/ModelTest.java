import java.lang.reflect.Method;
import java.util.ArrayList;
import java.util.Arrays;
import java.util.Comparator;
import java.util.List;
import java.util.Random;
import java.util.TreeMap;

/** All promises: runs of calls by lot, each answer of which is that of the model. */
public final class ModelTest {
    private static final Due due = new Due("ModelTest");
    private static final int RUNS = 400;
    private static final int CALLS = 500;

    private final Random lot;
    private final int run;
    private final CopiedFire x = new CopiedFire();
    private final Model model = new Model();
    private final List<String> calls = new ArrayList<>();
    private final TreeMap<String, Method[]> methods;
    private boolean wrong;

    private ModelTest(int run, TreeMap<String, Method[]> methods) {
        this.run = run;
        this.methods = methods;
        lot = new Random(run);
    }

    public static void main(String[] args) throws Exception {
        int runs = args.length > 0 ? Integer.parseInt(args[0]) : RUNS;
        TreeMap<String, Method[]> methods = new TreeMap<>(Comparator.naturalOrder());
        for (Method method : CopiedFire.class.getDeclaredMethods()) {
            if (java.lang.reflect.Modifier.isPublic(method.getModifiers())) {
                Method other = Model.class.getDeclaredMethod(method.getName(), method.getParameterTypes());
                methods.put(method.getName(), new Method[] {method, other});
            }
        }
        due.is("public methods", methods.size(), 47);
        for (int run = 0; run < runs; run++) {
            new ModelTest(run, methods).go();
        }
        due.end();
    }

    private void go() throws Exception {
        List<String> names = new ArrayList<>(methods.keySet());
        setTheHouse();
        while (calls.size() < CALLS - 70 && !wrong) {
            int what = lot.nextInt(30);
            if (what < 3) {
                writeText();
            } else if (what == 3) {
                tellRows();
            } else if (what < 6) {
                fillSheet();
            } else {
                any(names.get(lot.nextInt(names.size())));
            }
        }
    }

    private void setTheHouse() throws Exception {
        call("seed", lot.nextInt());
        if (run % 4 != 0) {
            call("deal", 1 + lot.nextInt(12));
            for (int i = lot.nextInt(14); i > 0; i--) {
                call("door", lot.nextInt(8), lot.nextInt(8), lot.nextInt(3));
            }
            for (int i = lot.nextInt(7); i > 0; i--) {
                call("visitor", lot.nextInt(256));
            }
        }
        if (run % 8 == 5) {
            for (int i = 0; i < 99 + lot.nextInt(2); i++) {
                call("minutes", 100);
            }
        }
    }

    private void call(String name, int... args) throws Exception {
        Object[] given = Arrays.stream(args).boxed().toArray();
        Method[] both = methods.get(name);
        int got = (Integer) both[0].invoke(x, given);
        int want = (Integer) both[1].invoke(model, given);
        String told = name + Arrays.toString(args);
        calls.add(told + " " + got);
        due.is("run " + run + ", call " + calls.size() + ": " + told, got, want);
        if (got != want && !wrong) {
            wrong = true;
            System.out.println("  behind " + calls);
        }
    }

    /** Mostly within the bounds, now and then one beyond, seldom any int at all. */
    private int near(int least, int most) {
        int how = lot.nextInt(40);
        if (how == 0) {
            return lot.nextBoolean() ? least - 1 : most + 1;
        }
        return how == 1 ? lot.nextInt() : least + lot.nextInt(most - least + 1);
    }

    private int thing() {
        return near(0, Math.max(0, model.s.things.size() - 1));
    }

    private int place() {
        return near(0, lot.nextInt(24));
    }

    private void any(String name) throws Exception {
        switch (name) {
            case "thing":
                call(name, near(0, 5), near(0, 7), near(0, 99), near(0, 1));
                break;
            case "told":
                call(name, thing(), near(0, 7));
                break;
            case "as":
            case "turns":
                call(name, thing(), near(0, 5));
                break;
            case "set":
                int what = near(1, 3);
                call(name, thing(), what, near(0, what == 1 ? 7 : what == 2 ? 99 : 1));
                break;
            case "deal":
                call(name, near(1, 12));
                break;
            case "seed":
                call(name, lot.nextInt());
                break;
            case "heat":
            case "hot":
                call(name, near(0, 7));
                break;
            case "heats":
                call(name, near(0, 7), near(0, 99));
                break;
            case "door":
                call(name, near(0, 7), near(0, 7), near(0, 2));
                break;
            case "doorTold":
            case "way":
                call(name, near(0, 7), near(0, 7));
                break;
            case "rule":
                int which = near(0, 1);
                call(name, which, near(0, which == 0 ? 100 : 9));
                break;
            case "visitor":
                call(name, near(0, 255));
                break;
            case "likes":
                call(name, near(0, 5), near(0, 255));
                break;
            case "seats":
                call(name, near(-1, 5));
                break;
            case "minutes":
                call(name, lot.nextInt(3) == 0 ? near(1, 100) : near(1, 9));
                break;
            case "house":
                call(name, near(0, 5));
                break;
            default:
                others(name);
        }
    }

    private void others(String name) throws Exception {
        switch (name) {
            case "behind":
                call(name, near(0, 100), near(0, 11));
                break;
            case "shut":
                call(name, near(1, 60), near(0, 2));
                break;
            case "hired":
                call(name, near(1, 60), near(0, 1));
                break;
            case "becomes":
                call(name, thing(), near(1, 60), near(0, 1));
                break;
            case "fine":
                call(name, thing());
                break;
            case "feed":
                call(name, lot.nextInt(), lot.nextInt(), lot.nextInt());
                break;
            case "trim":
                call(name, near(0, Math.max(0, model.tape.size())));
                break;
            case "textTold":
                call(name, near(0, 13), near(0, 1));
                break;
            case "why":
                call(name, near(0, 2));
                break;
            case "began":
            case "pour":
            case "reads":
                call(name, near(0, 3));
                break;
            case "like":
                call(name, near(0, 3), near(0, 1));
                break;
            case "sheet":
                call(name, near(0, 3), near(-1, 1), near(0, 24));
                break;
            case "mark":
                call(name, near(0, 3), place(), lot.nextInt(6) == 0 ? Model.NONE : near(-99999, 99999));
                break;
            case "copy":
                call(name, near(0, 3), place(), near(0, 3), place(), lot.nextInt(8) == 0 ? near(0, 24) : near(0, 4));
                break;
            case "lay":
                int held = near(0, 3);
                call(name, near(0, 4), held, held == 1 ? thing() : held == 2 ? near(0, 3) : lot.nextInt());
                break;
            case "ask":
                call(name, near(0, 4), near(0, 5));
                break;
            case "item":
                call(name, near(0, 4), place());
                break;
            case "rest":
                call(name, near(0, 4), near(-9, 9));
                break;
            case "tell":
                call(name, lot.nextInt(99));
                break;
            case "check":
                call(name, near(1, 30));
                break;
            case "keep":
            case "back":
            case "out":
            case "fee":
            case "text":
                call(name);
                break;
            case "count":
                call(name, near(0, 8));
                break;
            default:
                throw new IllegalStateException(name);
        }
    }

    private void writeText() throws Exception {
        String[] keys = {"burn", "fee", "fine"};
        String[] names = {"fhn", "ba", "fr"};
        int key = lot.nextInt(3);
        StringBuilder text = new StringBuilder(blanks() + keys[key] + " " + blanks());
        grow(text, names[key], lot.nextInt(7));
        text.append(blanks());
        if (lot.nextInt(3) == 0) {
            String signs = "()!|&<=>+-*/ 0123456789fhnbarxz%";
            for (int i = 1 + lot.nextInt(2); i > 0; i--) {
                int at = lot.nextInt(text.length());
                int how = lot.nextInt(3);
                if (how == 0) {
                    text.deleteCharAt(at);
                } else if (how == 1) {
                    text.setCharAt(at, signs.charAt(lot.nextInt(signs.length())));
                } else {
                    text.insert(at, signs.charAt(lot.nextInt(signs.length())));
                }
            }
        }
        text.setLength(Math.min(96, text.length()));
        call("trim", 0);
        for (int i = 0; i < text.length(); i += 12) {
            int[] fed = new int[3];
            for (int k = 0; k < 12; k++) {
                fed[k / 4] = fed[k / 4] << 8 | (i + k < text.length() ? text.charAt(i + k) : 0);
            }
            call("feed", fed[0], fed[1], fed[2]);
        }
        call("trim", text.length());
        call("text");
        call("fee");
        call("fine", thing());
        call("told", thing(), 4);
    }

    private String blanks() {
        return " ".repeat(lot.nextInt(5) == 0 ? lot.nextInt(3) : 0);
    }

    private void grow(StringBuilder text, String names, int depth) {
        int how = lot.nextInt(depth > 0 ? 8 : 2);
        if (how == 0) {
            text.append(names.charAt(lot.nextInt(names.length())));
        } else if (how == 1) {
            text.append(lot.nextInt(5) == 0 ? lot.nextInt(10000) : lot.nextInt(12));
        } else if (how == 2) {
            text.append("!".repeat(1 + lot.nextInt(lot.nextInt(9) == 0 ? 10 : 2)));
            grow(text, names, 0);
        } else if (how == 3) {
            int deep = lot.nextInt(9) == 0 ? 1 + lot.nextInt(10) : 1;
            text.append("(".repeat(deep));
            grow(text, names, depth - 1);
            text.append(")".repeat(deep));
        } else {
            grow(text, names, depth - 1);
            text.append(blanks()).append("|&<=>+-*/".charAt(lot.nextInt(9))).append(blanks());
            grow(text, names, depth / 2);
        }
    }

    private void tellRows() throws Exception {
        if (model.image == null || lot.nextInt(3) == 0) {
            call("keep");
        }
        int n = 1 + lot.nextInt(lot.nextInt(4) == 0 ? 30 : 6);
        List<Integer> rows = Model.minutesTold(model.image, n);
        int many = lot.nextInt(3) == 0 ? lot.nextInt(rows.size() + 1) : rows.size();
        for (int i = 0; i < many; i++) {
            call("tell", rows.get(i) + (lot.nextInt(60) == 0 ? 1 : 0));
        }
        if (lot.nextInt(5) == 0) {
            call("tell", lot.nextInt(9));
        }
        call("check", n);
    }

    private void fillSheet() throws Exception {
        int sheet = lot.nextInt(4);
        int n = lot.nextInt(lot.nextInt(3) == 0 ? 25 : 6);
        int sort = lot.nextInt(2);
        int how = lot.nextInt(3);
        call("sheet", sheet, sort, n);
        Model.State t = model.s.copied();
        if (how == 0 && !t.things.isEmpty()) {
            int cause = lot.nextInt(t.things.size());
            for (int i = 0; i < t.things.size(); i++) {
                t.things.get(i).lit = i == cause ? 1 : 0;
            }
        }
        for (int k = 0; k < n; k++) {
            boolean isThing = k < t.things.size();
            int v = how == 0 ? Integer.bitCount(t.lit()) : how == 1 ? t.heatOf(3) : isThing ? t.things.get(k).room : 0;
            v += lot.nextInt(12) == 0 ? lot.nextInt(5) - 2 : 0;
            call("mark", sheet, k, sort == 1 && (lot.nextInt(6) == 0 || how == 2 && !isThing) ? Model.NONE : v);
            if (how < 2) {
                t.pass();
            }
        }
        call("began", sheet);
        call("like", sheet, 0);
        call("like", sheet, 1);
        call("reads", sheet);
    }
}
