import java.lang.reflect.Method;
import java.util.Arrays;

/** A call that is refused changes nothing but the tape and the numbers that wait, where told. */
public final class RefusalsTest {
    private static final int BAD = CopiedFire.BAD;
    private static final int NO = CopiedFire.NO;
    private static final int FULL = CopiedFire.FULL;
    private static final int NONE = CopiedFire.NONE;
    private static final int NOTHING = CopiedFire.NOTHING;
    private static final int KIND = CopiedFire.KIND;
    private static final int INDEX = CopiedFire.INDEX;
    private static final int SIZE = CopiedFire.SIZE;
    private static final int BIG = Integer.MAX_VALUE;
    private static final int LOW = Integer.MIN_VALUE;
    private static final Due due = new Due("RefusalsTest");

    public static void main(String[] args) throws Exception {
        things();
        rooms();
        whatWillBe();
        texts();
        sheets();
        slots();
        rows();
        everyCallWithAnything();
        due.end();
    }

    /** All that can be full is full; sheet 0 is of floats, 1 of shorts, 2 and 3 are missing. */
    private static CopiedFire full() {
        CopiedFire x = new CopiedFire();
        x.seed(12);
        x.deal(12);
        for (int i = 0; i < 6; i++) {
            x.visitor(40 * i);
        }
        for (int i = 0; i < 14; i++) {
            Due.text(x, i % 2 == 0 ? "fee b+" + i : "fine f-" + i);
        }
        for (int i = 0; i < 60; i++) {
            x.tell(i);
        }
        x.sheet(0, 1, 3);
        x.mark(0, 0, NONE);
        x.sheet(1, 0, 2);
        x.lay(0, 1, 0);
        x.lay(1, 2, 0);
        x.lay(2, 3, 55);
        x.minutes(2);
        x.heats(0, 33);
        Due.onTape(x, "fee b".repeat(19) + "x");
        return x;
    }

    /** All but the numbers that wait and the tape, by calls that only tell. */
    private static String allOf(CopiedFire x) {
        StringBuilder all = new StringBuilder();
        int[] counts = {0, 1, 2, 3, 4, 5, 8};
        for (int what : counts) {
            add(all, x.count(what));
        }
        for (int what = 0; what < 6; what++) {
            add(all, x.house(what));
        }
        for (int i = 0; i < 12; i++) {
            add(all, x.told(i, 0), x.told(i, 1), x.told(i, 2), x.told(i, 3), x.fine(i));
        }
        for (int one = 0; one < 8; one++) {
            add(all, x.heat(one));
            for (int other = one + 1; other < 8; other++) {
                add(all, x.doorTold(one, other));
            }
        }
        for (int i = 0; i < 6; i++) {
            add(all, x.seats(i));
        }
        for (int i = 0; i < 4; i++) {
            add(all, x.reads(i), x.like(i, 1), x.began(i));
        }
        for (int i = 0; i < 5; i++) {
            add(all, x.ask(i, 0), x.item(i, 0), x.item(i, 2), x.item(i, 3), x.rest(i, 1000));
        }
        return all.append(x.fee()).toString();
    }

    private static void add(StringBuilder all, int... told) {
        for (int v : told) {
            all.append(v).append(' ');
        }
    }

    private static int answer(CopiedFire x, String name, int... args) throws Exception {
        Class<?>[] types = new Class<?>[args.length];
        Arrays.fill(types, int.class);
        Method method = CopiedFire.class.getMethod(name, types);
        return (Integer) method.invoke(x, Arrays.stream(args).boxed().toArray());
    }

    private static void refused(int want, String name, int... args) throws Exception {
        CopiedFire x = full();
        String before = allOf(x);
        String call = name + Arrays.toString(args);
        due.is(call, answer(x, name, args), want);
        due.holds(call + " changed nothing", before.equals(allOf(x)));
        due.is(call + ": numbers that wait", x.count(6), name.equals("check") ? 0 : 60);
        due.is(call + ": the tape", x.count(7), name.equals("text") ? 0 : 96);
    }

    private static void things() throws Exception {
        refused(BAD, "thing", 6, 0, 0, 0);
        refused(BAD, "thing", 0, 0, 100, 0);
        refused(FULL, "thing", 5, 7, 99, 1);
        refused(BAD, "told", 12, 0);
        refused(BAD, "told", 0, 8);
        refused(BAD, "as", 0, 6);
        refused(BAD, "as", 12, 0);
        refused(BAD, "turns", 12, 0);
        refused(BAD, "turns", 0, BIG);
        refused(BAD, "set", 0, 1, 8);
        refused(BAD, "set", 0, 2, 100);
        refused(BAD, "set", 0, 3, 2);
        refused(BAD, "set", 12, 1, 0);
        refused(BAD, "set", 0, 0, 0);
        refused(BAD, "deal", 0);
        refused(BAD, "deal", 13);
        refused(0, "deal", 12);
    }

    private static void rooms() throws Exception {
        refused(BAD, "heat", 8);
        refused(BAD, "heats", 0, 100);
        refused(BAD, "heats", LOW, 1);
        refused(BAD, "door", 3, 3, 2);
        refused(BAD, "door", 3, 4, 3);
        refused(BAD, "doorTold", 8, 0);
        refused(BAD, "rule", 0, 101);
        refused(BAD, "rule", 1, 10);
        refused(BAD, "rule", 2, 0);
        refused(BAD, "visitor", 256);
        refused(FULL, "visitor", 255);
        refused(BAD, "likes", 6, 1);
        refused(BAD, "likes", 0, 256);
        refused(BAD, "seats", 6);
        refused(BAD, "way", 8, 0);
        refused(NONE, "way", 0, 1);
        refused(BAD, "minutes", 0);
        refused(BAD, "minutes", 101);
        refused(BAD, "house", 6);
    }

    private static void whatWillBe() throws Exception {
        refused(BAD, "behind", 101, 0);
        refused(BAD, "hot", 8);
        refused(BAD, "shut", 61, 0);
        refused(NONE, "shut", 60, 2);
        refused(BAD, "hired", 0, 0);
        refused(BAD, "becomes", 12, 1, 0);
        refused(BAD, "began", 4);
        refused(NOTHING, "began", 2);
        refused(BAD, "like", 0, 2);
        refused(NOTHING, "like", 3, 1);
        refused(BAD, "fine", 12);
    }

    private static void texts() throws Exception {
        refused(FULL, "feed", 0, 0, 0);
        refused(BAD, "trim", 97);
        refused(BAD, "trim", -1);
        refused(-104, "text");
        refused(BAD, "textTold", 14, 0);
        refused(BAD, "textTold", 0, 2);
        refused(BAD, "why", 3);
        refused(NONE, "why", 0);
        CopiedFire x = full();
        x.trim(5);
        String before = allOf(x);
        due.is("a fifteenth text", x.text(), FULL);
        due.holds("it changed nothing", before.equals(allOf(x)));
        due.is("but the tape", x.count(7), 0);
    }

    private static void sheets() throws Exception {
        refused(BAD, "sheet", 4, 0, 0);
        refused(BAD, "sheet", 0, 2, 0);
        refused(BAD, "sheet", 0, 0, 25);
        refused(SIZE, "sheet", 0, 0, -1);
        refused(BAD, "mark", 4, 0, 0);
        refused(NOTHING, "mark", 2, 0, 0);
        refused(INDEX, "mark", 0, 3, 0);
        refused(KIND, "mark", 1, 0, NONE);
        refused(BAD, "mark", 0, 0, 100000);
        refused(BAD, "pour", 4);
        refused(NOTHING, "pour", 2);
        refused(BAD, "reads", -1);
        refused(NOTHING, "reads", 3);
        refused(BAD, "copy", 0, 0, 4, 0, 1);
        refused(NOTHING, "copy", 0, 0, 2, 0, 1);
        refused(KIND, "copy", 0, 0, 1, 0, 1);
        refused(INDEX, "copy", 0, 2, 0, 0, 2);
        refused(INDEX, "copy", 0, 0, 0, 2, 2);
        refused(INDEX, "copy", 0, 2, 0, 2, BIG);
    }

    private static void slots() throws Exception {
        refused(BAD, "lay", 5, 0, 0);
        refused(BAD, "lay", 0, 4, 0);
        refused(BAD, "lay", 0, 1, 12);
        refused(BAD, "lay", 0, 2, 4);
        refused(NOTHING, "lay", 0, 2, 2);
        refused(BAD, "ask", 0, 6);
        refused(NOTHING, "ask", 3, 0);
        refused(KIND, "ask", 1, 0);
        refused(BAD, "item", 5, 0);
        refused(NOTHING, "item", 4, 0);
        refused(KIND, "item", 0, 0);
        refused(INDEX, "item", 1, 3);
        refused(KIND, "item", 1, 0);
        refused(BAD, "rest", 5, 0);
        refused(NOTHING, "rest", 3, 0);
        refused(KIND, "rest", 0, 0);
        refused(NO, "rest", 2, 0);
    }

    private static void rows() throws Exception {
        refused(FULL, "tell", 1);
        refused(BAD, "check", 0);
        refused(BAD, "check", 31);
        refused(NO, "check", 1);
        refused(NO, "back");
        refused(BAD, "count", 9);
    }

    /** None of the calls throws, whatever comes and wherever it comes. */
    private static void everyCallWithAnything() throws Exception {
        int[] any = {LOW, -2, -1, 0, 1, 2, 3, 7, 12, 24, 60, 100, BIG, NONE};
        int calls = 0;
        for (Method method : CopiedFire.class.getDeclaredMethods()) {
            if (java.lang.reflect.Modifier.isPublic(method.getModifiers())) {
                for (int i = 0; i < 40; i++) {
                    CopiedFire x = i % 2 == 0 ? new CopiedFire() : full();
                    Object[] args = new Object[method.getParameterCount()];
                    for (int k = 0; k < args.length; k++) {
                        args[k] = any[(i * 5 + k * (3 + i / 7) + calls) % any.length];
                    }
                    method.invoke(x, args);
                    x.minutes(100);
                    calls++;
                }
            }
        }
        due.is("calls", calls, 47 * 40);
    }
}
