/** Holds answers against those that are due, and tells each that differs. */
final class Due {
    private final String name;
    private int calls;
    private int wrong;

    Due(String name) {
        this.name = name;
    }

    void is(String call, int got, int want) {
        calls++;
        if (got != want) {
            wrong++;
            System.out.println(name + ": " + call + " answered " + got + ", due is " + want);
        }
    }

    void holds(String what, boolean truth) {
        is(what, truth ? 1 : 0, 1);
    }

    /** Something was asked, and no answer was wrong. */
    boolean passed() {
        return wrong == 0 && calls > 0;
    }

    int calls() {
        return calls;
    }

    /** Ends the test: with exit code 1 if an answer was wrong, or if nothing was asked. */
    void end() {
        System.out.println(name + ": " + (calls - wrong) + " of " + calls + " answers are as due");
        if (!passed()) {
            System.exit(1);
        }
    }

    /** Puts a text on the tape (of at most 96 signs) as it stands. */
    static void onTape(CopiedFire x, String text) {
        for (int i = 0; i < text.length(); i += 12) {
            x.feed(four(text, i), four(text, i + 4), four(text, i + 8));
        }
        x.trim(text.length());
    }

    static int text(CopiedFire x, String text) {
        onTape(x, text);
        return x.text();
    }

    private static int four(String text, int from) {
        int v = 0;
        for (int i = from; i < from + 4; i++) {
            v = v << 8 | (i < text.length() ? text.charAt(i) & 255 : 0);
        }
        return v;
    }

    /** The next z, by numbers so wide that nothing wraps before it is cut. */
    static int nextZ(int z) {
        return (int) (z * 1103515245L + 12345L);
    }

    static int drawn(int z, int by) {
        return (z >>> 8) % by;
    }
}
