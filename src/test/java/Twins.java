import java.lang.reflect.Method;
import java.util.Arrays;
import java.util.function.Supplier;

/**
 * Fires to begin with, and what a call leaves as it was: the same fire is made twice, the call is made on one of them
 * alone, and then both must tell the same. Telling all uses a fire up (the tape is read, rows are checked), and would take
 * more than 512 calls: so all is told in three views, each by a pair of its own.
 */
final class Twins {
    private static final int VIEWS = 3;

    private Twins() {
    }

    /** A fire without wind and without cooling. */
    static CopiedFire still() {
        CopiedFire x = new CopiedFire();
        x.rule(0, 0);
        x.rule(1, 0);
        return x;
    }

    /** A still and empty house, so many minutes old. */
    static CopiedFire late(int minute) {
        CopiedFire x = still();
        for (int left = minute; left > 0; left -= 100) {
            x.minutes(Math.min(100, left));
        }
        return x;
    }

    /**
     * Something of all, and nothing full: three things, two visitors, two texts, an image that is not as all is now, two
     * rows that are right by it, a tape with a text; sheet 0 of shorts, 1 of floats, 2 without places, 3 missing; slot 0
     * with a thing, 1 and 4 with sheets, 2 with a number, 3 with nothing.
     */
    static CopiedFire some() {
        CopiedFire x = new CopiedFire();
        x.seed(4321);
        x.thing(3, 0, 60, 1);
        x.thing(2, 1, 30, 0);
        x.thing(0, 7, 40, 1);
        x.door(0, 1, 2);
        x.door(1, 7, 1);
        x.heats(1, 31);
        x.visitor(3);
        x.visitor(129);
        Due.text(x, "fee b*2+a");
        Due.text(x, "fine f+r*7");
        x.minutes(2);
        keepAndTell(x, 2);
        x.set(0, 2, 33);
        x.rule(1, 3);
        addSheetsAndSlots(x);
        Due.onTape(x, "burn h/3+n+1");
        return x;
    }

    /** The same, but with twelve things, six visitors, 14 texts, 60 numbers that wait and 96 bytes on the tape. */
    static CopiedFire full() {
        CopiedFire x = new CopiedFire();
        x.seed(12);
        x.deal(12);
        for (int i = 0; i < 6; i++) {
            x.visitor(40 * i);
        }
        for (int i = 0; i < 13; i++) {
            Due.text(x, i % 2 == 0 ? "fee b+" + i : "fine f-" + i);
        }
        x.door(2, 3, 2);
        keepAndTell(x, 30);
        Due.text(x, "burn 3");
        addSheetsAndSlots(x);
        Due.onTape(x, "burn h/3+n+1" + "+0".repeat(42));
        return x;
    }

    private static void keepAndTell(CopiedFire x, int minutes) {
        x.keep();
        for (int n = 1; n <= minutes; n++) {
            x.tell(x.behind(n, 0));
            x.tell(x.behind(n, 3));
        }
    }

    private static void addSheetsAndSlots(CopiedFire x) {
        x.sheet(0, 0, 3);
        x.mark(0, 0, -7);
        x.mark(0, 2, 300);
        x.sheet(1, 1, 2);
        x.mark(1, 1, CopiedFire.NONE);
        x.sheet(2, 1, 0);
        x.lay(0, 1, 0);
        x.lay(1, 2, 0);
        x.lay(2, 3, 55);
        x.lay(4, 2, 1);
    }

    /** The call answers so, of some fire, and leaves it as it was. */
    static void refused(Due due, int want, String name, int... args) {
        leaves(due, Twins::some, want, name, args);
    }

    static void refusedWhenFull(Due due, int want, String name, int... args) {
        leaves(due, Twins::full, want, name, args);
    }

    static void leaves(Due due, Supplier<CopiedFire> made, int want, String name, int... args) {
        String call = name + Arrays.toString(args);
        for (int view = 0; view < VIEWS; view++) {
            CopiedFire x = made.get();
            due.is(call, answer(x, name, args), want);
            due.holds(call + " leaves all as it was, view " + view, told(x, view).equals(told(made.get(), view)));
        }
    }

    static int answer(CopiedFire x, String name, int... args) {
        Class<?>[] types = new Class<?>[args.length];
        Arrays.fill(types, int.class);
        try {
            Method method = CopiedFire.class.getMethod(name, types);
            return (Integer) method.invoke(x, Arrays.stream(args).boxed().toArray());
        } catch (ReflectiveOperationException e) {
            throw new IllegalStateException(name + Arrays.toString(args), e);
        }
    }

    /** All that can be told of the house as it is now. */
    static String houseOf(CopiedFire x) {
        return told(x, 0);
    }

    private static String told(CopiedFire x, int view) {
        StringBuilder all = new StringBuilder();
        if (view == 0) {
            addHouse(all, x);
        } else if (view == 1) {
            addSlots(all, x);
            addSheets(all, x);
        } else {
            addWhatIsKept(all, x);
        }
        return all.toString();
    }

    private static void add(StringBuilder all, int... told) {
        for (int v : told) {
            all.append(v).append(' ');
        }
    }

    private static void addHouse(StringBuilder all, CopiedFire x) {
        for (int what = 0; what <= 8; what++) {
            add(all, x.count(what));
        }
        for (int what = 0; what <= 5; what++) {
            add(all, x.house(what));
        }
        for (int i = 0; i < 12; i++) {
            add(all, x.told(i, 0), x.told(i, 1), x.told(i, 2), x.told(i, 3), x.fine(i));
        }
        for (int one = 0; one < 8; one++) {
            add(all, x.heat(one));
            for (int other = one + 1; other < 8; other++) {
                add(all, x.doorTold(one, other));
            }
        }
        for (int text = 0; text < 14; text++) {
            add(all, x.textTold(text, 0), x.textTold(text, 1));
        }
        add(all, x.why(0), x.why(1), x.why(2), x.fee(), x.behind(9, 0));
        for (int i = 0; i < 6; i++) {
            add(all, x.likes(i, 0));
        }
    }

    private static void addSlots(StringBuilder all, CopiedFire x) {
        for (int slot = 0; slot < 5; slot++) {
            add(all, x.rest(slot, 1000000007));
            for (int kind = 0; kind < 6; kind++) {
                add(all, x.ask(slot, kind));
            }
            for (int place = 0; place <= 24; place++) {
                add(all, x.item(slot, place));
            }
        }
    }

    private static void addSheets(StringBuilder all, CopiedFire x) {
        for (int one = 0; one < 4; one++) {
            add(all, x.lay(0, 2, one));
            for (int place = 0; place <= 24; place++) {
                add(all, x.item(0, place));
            }
            for (int other = one + 1; other < 4; other++) {
                add(all, x.copy(one, 0, other, 0, 0));
            }
            add(all, x.mark(one, 0, CopiedFire.NONE));
        }
    }

    /** The numbers that wait, held against the image; the image itself; the tape, read as a text. */
    private static void addWhatIsKept(StringBuilder all, CopiedFire x) {
        add(all, x.count(6), x.count(7), x.check(Math.max(1, x.count(6) / 2)), x.back());
        all.append(houseOf(x));
        add(all, x.text(), x.count(5), x.textTold(x.count(5) - 1, 1), x.why(0), x.why(1), x.told(0, 4), x.fee());
    }
}
