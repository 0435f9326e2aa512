/** Promises 44 to 48: tell, check, keep, back, count. */
final class EdgesOfRowCalls {
    private static final int BAD = CopiedFire.BAD;
    private static final int NO = CopiedFire.NO;
    private static final int FULL = CopiedFire.FULL;
    private static final int LOW = Integer.MIN_VALUE;
    private static final int BIG = Integer.MAX_VALUE;

    private EdgesOfRowCalls() {
    }

    // ---- 44 tell

    @Sentence(of = "Promise 44", says = "One more number waits: how many.")
    static void from1To60Wait(Due due) {
        CopiedFire x = new CopiedFire();
        int[] any = {0, LOW, BIG, BAD};
        for (int i = 1; i <= 60; i++) {
            due.is("waits", x.tell(any[i % 4]), i);
        }
        due.is("sixty", x.count(6), 60);
    }

    @Sentence(of = "Promise 44", says = "FULL: 60 wait.")
    static void sixtyWait(Due due) {
        Twins.refusedWhenFull(due, FULL, "tell", 0);
        Twins.refusedWhenFull(due, FULL, "tell", LOW);
        CopiedFire x = Twins.full();
        x.check(1);
        due.is("there is room again", x.tell(0), 1);
    }

    // ---- 45 check

    /** Kept, with one thing that burns one a minute: behind k minutes k are burnt, and the heat is k. */
    private static CopiedFire kept(int minute) {
        CopiedFire x = Twins.late(minute);
        x.thing(0, 0, 99, 1);
        Due.text(x, "burn 1");
        x.keep();
        return x;
    }

    private static int checked(CopiedFire x, int n, int... rows) {
        for (int v : rows) {
            x.tell(v);
        }
        return x.check(n);
    }

    private static int[] rowsOf(int minutes) {
        int[] rows = new int[2 * minutes];
        for (int i = 0; i < rows.length; i++) {
            rows[i] = 1 + i / 2;
        }
        return rows;
    }

    @Sentence(of = "Promise 45", says = "The numbers that wait (none do then, whatever is answered)")
    static void noneWaitThen(Due due) {
        CopiedFire x = kept(0);
        due.is("right", checked(x, 1, 1, 1), 0);
        due.is("none wait", x.count(6), 0);
        due.is("wrong", checked(x, 1, 1, 2), 2);
        due.is("none wait then", x.count(6), 0);
        due.is("bad", checked(x, 0, 1, 1), BAD);
        due.is("none wait behind BAD", x.count(6), 0);
        CopiedFire y = new CopiedFire();
        due.is("no image", checked(y, 1, 1, 1), NO);
        due.is("none wait behind NO", y.count(6), 0);
        due.is("none wait, and none are told", x.check(1), 1);
    }

    @Sentence(of = "Promise 45", says = "are THE MINUTES TOLD of n (1 .. 30;")
    static void rowsOf1And30(Due due) {
        CopiedFire x = kept(0);
        due.is("one", checked(x, 1, rowsOf(1)), 0);
        due.is("29", checked(x, 29, rowsOf(29)), 0);
        due.is("30", checked(x, 30, rowsOf(30)), 0);
        due.is("the minute stays", x.count(1), 0);
        due.is("nothing is burnt", x.house(0), 0);
    }

    @Sentence(of = "Promise 45", says = "fewer, if THE MINUTE would be above 9999),")
    static void fewerAtTheEnd(Due due) {
        CopiedFire x = kept(9997);
        due.is("two are left of 30", checked(x, 30, rowsOf(2)), 0);
        due.is("two are left of 3", checked(x, 3, rowsOf(2)), 0);
        due.is("a third is too much", checked(x, 3, rowsOf(3)), 5);
        due.is("two of two", checked(x, 2, rowsOf(2)), 0);
        due.is("one of one", checked(x, 1, rowsOf(1)), 0);
        CopiedFire last = kept(9999);
        due.is("none are left", last.check(1), 0);
        due.is("none of 30 either", last.check(30), 0);
        due.is("one too many", checked(last, 30, 1), 1);
        CopiedFire y = kept(9969);
        due.is("just thirty are left", checked(y, 30, rowsOf(30)), 0);
        y.minutes(100);
        due.is("by the minute of the image", checked(y, 30, rowsOf(30)), 0);
    }

    @Sentence(of = "Promise 45", says = "two by two: 0;")
    static void burntThenHeat(Due due) {
        CopiedFire x = Twins.still();
        x.thing(1, 0, 99, 1);
        x.heats(7, 99);
        x.keep();
        // a curtain burns 7 and gives 10
        due.is("burnt, then heat", checked(x, 2, 7, 109, 14, 119), 0);
        due.is("heat, then burnt", checked(x, 2, 109, 7, 119, 14), 1);
        due.is("all burnt, then all heat", checked(x, 2, 7, 14, 109, 119), 2);
    }

    @Sentence(of = "Promise 45", says = "else 1 and how many stand right ahead of the first that is not")
    static void theFirstThatIsNot(Due due) {
        CopiedFire x = kept(0);
        for (int wrong = 0; wrong < 6; wrong++) {
            int[] rows = rowsOf(3);
            rows[wrong]++;
            due.is("place " + wrong, checked(x, 3, rows), 1 + wrong);
            rows[5] = LOW;
            due.is("place " + wrong + ", and the last", checked(x, 3, rows), 1 + wrong);
        }
        int[] rows = rowsOf(30);
        rows[59]--;
        due.is("the sixtieth", checked(x, 30, rows), 60);
    }

    @Sentence(of = "Promise 45", says = "(or is missing, or one too many).")
    static void missingOrTooMany(Due due) {
        CopiedFire x = kept(0);
        due.is("none wait", x.check(30), 1);
        due.is("one of two", checked(x, 1, 1), 2);
        due.is("two of four", checked(x, 2, 1, 1), 3);
        due.is("three of four", checked(x, 2, 1, 1, 2), 4);
        due.is("three for two", checked(x, 1, 1, 1, 2), 3);
        due.is("sixty for two", checked(x, 1, rowsOf(30)), 3);
        due.is("the last of sixty is missing", checked(x, 30, java.util.Arrays.copyOf(rowsOf(30), 59)), 60);
        due.is("wrong ahead of too many", checked(x, 1, 1, 2, 2), 2);
    }

    @Sentence(of = "Promise 45", says = "BAD; NO: there is no IMAGE.")
    static void checkIsRefused(Due due) {
        int[] wrong = {0, -1, 31, LOW, BIG};
        for (int n : wrong) {
            due.is("check(" + n + ") with an image", kept(0).check(n), BAD);
            due.is("check(" + n + ") without one", new CopiedFire().check(n), BAD);
            Twins.leaves(due, CopiedFire::new, BAD, "check", n);
        }
        due.is("no image", new CopiedFire().check(1), NO);
        due.is("no image for 30", new CopiedFire().check(30), NO);
        Twins.leaves(due, CopiedFire::new, NO, "check", 30);
        CopiedFire x = Twins.some();
        CopiedFire y = Twins.some();
        due.is("bad", x.check(31), BAD);
        y.check(1);
        due.holds("it changes nothing but the numbers that wait", Twins.houseOf(x).equals(Twins.houseOf(y)));
    }

    // ---- 46 keep, 47 back

    @Sentence(of = "Promise 46", says = "AN IMAGE is kept: how many THINGS.")
    static void keepsNoneAndTwelve(Due due) {
        CopiedFire x = new CopiedFire();
        due.is("no things", x.keep(), 0);
        for (int i = 1; i <= 12; i++) {
            x.thing(0, 0, 0, 0);
            due.is("things", x.keep(), i);
        }
        x.turns(0, 5);
        x.back();
        due.is("the last image counts", x.count(0), 12);
        Twins.leaves(due, () -> keptTwice(), 3, "keep");
    }

    private static CopiedFire keptTwice() {
        CopiedFire x = Twins.some();
        x.check(1);
        x.keep();
        return x;
    }

    @Sentence(of = "Promise 47", says = "All is as THE IMAGE: how many THINGS.")
    static void backToNoneAndTwelve(Due due) {
        CopiedFire x = new CopiedFire();
        x.keep();
        x.deal(12);
        x.minutes(100);
        due.is("back to none", x.back(), 0);
        due.is("the minute", x.count(1), 0);
        due.is("z", x.count(8), 1);
        x.deal(12);
        x.keep();
        x.minutes(100);
        due.is("back to twelve", x.back(), 12);
        due.is("the minute then", x.count(1), 0);
        due.is("they can burn again", x.behind(60, 0), x.minutes(60));
        CopiedFire late = kept(9999);
        late.set(0, 2, 1);
        due.is("back to the last minute", late.back(), 1);
        due.is("it is the last", late.count(1), 9999);
        due.is("the fuel", late.told(0, 2), 99);
    }

    @Sentence(of = "Promise 47", says = "NO: there is none.")
    static void noImage(Due due) {
        Twins.leaves(due, CopiedFire::new, NO, "back");
        CopiedFire x = new CopiedFire();
        x.thing(0, 0, 9, 1);
        due.is("none", x.back(), NO);
        due.is("the thing stays", x.count(0), 1);
        x.keep();
        due.is("there is one", x.back(), 1);
    }

    // ---- 48 count

    @Sentence(of = "Promise 48", says = "0 how many THINGS, 1 THE MINUTE, 2 WIND, 3 COOL, 4 how many VISITORS, 5 TEXTS,"
        + " 6 numbers that wait, 7 bytes of THE TAPE, 8 z.")
    static void countsOfNothingAndOfAll(Due due) {
        int[] least = {0, 0, 0, 0, 0, 0, 0, 0, LOW};
        int[] most = {12, 9999, 100, 9, 6, 14, 60, 96, BIG};
        CopiedFire x = Twins.still();
        x.seed(LOW);
        CopiedFire y = Twins.full();
        y.rule(0, 100);
        y.rule(1, 9);
        for (int i = 0; i < 100; i++) {
            y.minutes(100);
        }
        y.seed(BIG);
        for (int what = 0; what <= 8; what++) {
            due.is("the least of " + what, x.count(what), least[what]);
            due.is("the most of " + what, y.count(what), most[what]);
        }
    }

    @Sentence(of = "Promise 48", says = "BAD.")
    static void countIsBad(Due due) {
        int[] wrong = {-1, 9, LOW, BIG};
        for (int what : wrong) {
            Twins.refused(due, BAD, "count", what);
        }
    }
}
