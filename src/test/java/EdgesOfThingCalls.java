/** Promises 1 to 8: a new object, thing, told, as, turns, set, deal, seed. */
final class EdgesOfThingCalls {
    private static final int BAD = CopiedFire.BAD;
    private static final int NO = CopiedFire.NO;
    private static final int FULL = CopiedFire.FULL;
    private static final int NONE = CopiedFire.NONE;
    private static final int KIND = CopiedFire.KIND;
    private static final int LOW = Integer.MIN_VALUE;
    private static final int BIG = Integer.MAX_VALUE;

    private EdgesOfThingCalls() {
    }

    // ---- 1 a new object

    @Sentence(of = "Promise 1", says = "As told;")
    static void aNewObjectIsAsTold(Due due) {
        CopiedFire x = new CopiedFire();
        int[] counts = {0, 0, 20, 2, 0, 0, 0, 0, 1};
        for (int what = 0; what < counts.length; what++) {
            due.is("count(" + what + ")", x.count(what), counts[what]);
        }
        for (int what = 0; what <= 5; what++) {
            due.is("house(" + what + ")", x.house(what), 0);
        }
        due.is("no image", x.back(), NO);
        due.is("nothing on the tape", x.text(), -100);
        CopiedFire other = new CopiedFire();
        x.thing(0, 0, 9, 1);
        x.minutes(1);
        due.is("another one is another one", other.count(0) + other.count(1) + other.house(0), 0);
    }

    @Sentence(of = "Promise 1", says = "no THINGS,")
    static void aNewObjectHasNoThings(Due due) {
        CopiedFire x = new CopiedFire();
        due.is("told", x.told(0, 0), BAD);
        due.is("as", x.as(0, 0), BAD);
        due.is("turns", x.turns(0, 0), BAD);
        due.is("set", x.set(0, 1, 0), BAD);
        due.is("becomes", x.becomes(0, 1, 0), BAD);
        due.is("fine", x.fine(0), BAD);
        due.is("lay", x.lay(0, 1, 0), BAD);
        due.is("lit", x.house(3), 0);
        due.is("minutes", x.minutes(100), 0);
        due.is("kept", x.keep(), 0);
    }

    @Sentence(of = "Promise 1", says = "no VISITORS,")
    static void aNewObjectHasNoVisitors(Due due) {
        CopiedFire x = new CopiedFire();
        due.is("likes", x.likes(0, 0), BAD);
        due.is("seats of one", x.seats(0), BAD);
        due.is("seats together", x.seats(-1), 0);
        due.is("how many", x.house(5), 0);
    }

    @Sentence(of = "Promise 1", says = "no DOORS.")
    static void aNewObjectHasNoDoors(Due due) {
        CopiedFire x = new CopiedFire();
        for (int one = 0; one < 8; one++) {
            for (int other = 0; other < 8; other++) {
                due.is("between " + one + " and " + other, x.doorTold(one, other), one == other ? BAD : 0);
            }
        }
        due.is("none to shut", x.shut(1, 0), NONE);
    }

    // ---- 2 thing

    @Sentence(of = "Promise 2", says = "One more THING: its number.")
    static void theLeastAndTheGreatestThing(Due due) {
        CopiedFire x = new CopiedFire();
        due.is("all the least", x.thing(0, 0, 0, 0), 0);
        due.is("all the greatest", x.thing(5, 7, 99, 1), 1);
        int[][] want = {{0, 0, 0, 0}, {5, 7, 99, 1}};
        for (int i = 0; i < 2; i++) {
            for (int what = 0; what < 4; what++) {
                due.is("told(" + i + ", " + what + ")", x.told(i, what), want[i][what]);
            }
        }
        for (int i = 2; i < 12; i++) {
            due.is("its number", x.thing(0, 0, 0, 0), i);
        }
    }

    @Sentence(of = "Promise 2", says = "BAD;")
    static void aThingThatIsBad(Due due) {
        int[][] wrong = {
            {-1, 0, 0, 0}, {6, 0, 0, 0}, {0, -1, 0, 0}, {0, 8, 0, 0}, {0, 0, -1, 0}, {0, 0, 100, 0}, {0, 0, 0, -1},
            {0, 0, 0, 2}, {LOW, 0, 0, 0}, {0, BIG, 0, 0}, {0, 0, LOW, 0}, {0, 0, 0, BIG}
        };
        for (int[] w : wrong) {
            Twins.refused(due, BAD, "thing", w);
        }
    }

    @Sentence(of = "Promise 2", says = "BAD; FULL.")
    static void aThingTooMany(Due due) {
        Twins.refusedWhenFull(due, FULL, "thing", 0, 0, 0, 0);
        Twins.refusedWhenFull(due, FULL, "thing", 5, 7, 99, 1);
        Twins.refusedWhenFull(due, BAD, "thing", 6, 0, 0, 0);
        Twins.refusedWhenFull(due, BAD, "thing", 0, 0, 0, 2);
    }

    // ---- 3 told

    @Sentence(of = "Promise 3", says = "Of a THING: what 0 KIND, 1 ROOM, 2 FUEL, 3 LIT, 4 how much it BURNS,"
        + " 5 what it GIVES of that, 6 what it CATCHES from, 7 WORTH.")
    static void toldOfTheFirstAndTheLast(Due due) {
        CopiedFire x = new CopiedFire();
        x.thing(3, 6, 1, 1);
        for (int i = 1; i < 11; i++) {
            x.thing(0, 0, 0, 0);
        }
        x.thing(2, 7, 99, 0);
        int[] first = {3, 6, 1, 1, 14, 17, 6, 10};
        int[] last = {2, 7, 99, 0, 2, 1, 35, 21};
        for (int what = 0; what <= 7; what++) {
            due.is("told(0, " + what + ")", x.told(0, what), first[what]);
            due.is("told(11, " + what + ")", x.told(11, what), last[what]);
        }
    }

    @Sentence(of = "Promise 3", says = "BAD.")
    static void toldIsBad(Due due) {
        int[][] wrong = {{-1, 0}, {3, 0}, {LOW, 0}, {BIG, 0}, {0, -1}, {0, 8}, {2, LOW}, {2, BIG}};
        for (int[] w : wrong) {
            Twins.refused(due, BAD, "told", w);
        }
        Twins.refusedWhenFull(due, BAD, "told", 12, 0);
    }

    // ---- 4 as

    @Sentence(of = "Promise 4", says = "A THING as one of a KIND: FUEL.")
    static void fuelOfAKind(Due due) {
        CopiedFire x = new CopiedFire();
        x.thing(5, 0, 0, 0);
        x.thing(4, 0, 99, 0);
        due.is("no fuel", x.as(0, 5), 0);
        due.is("the most fuel, as itself", x.as(1, 4), 99);
        due.is("as the one above", x.as(1, 2), 99);
        due.is("as the one above all", x.as(1, 0), 99);
    }

    @Sentence(of = "Promise 4", says = "BAD: thing, kind;")
    static void asIsBad(Due due) {
        int[][] wrong = {{-1, 0}, {3, 0}, {BIG, 0}, {0, -1}, {0, 6}, {0, LOW}, {3, 5}, {-1, 6}};
        for (int[] w : wrong) {
            Twins.refused(due, BAD, "as", w);
        }
    }

    @Sentence(of = "Promise 4", says = "KIND: it is not of that KIND, nor of one under it.")
    static void asAnotherKind(Due due) {
        CopiedFire x = new CopiedFire();
        x.thing(0, 0, 7, 0);
        x.thing(1, 0, 7, 0);
        for (int kind = 1; kind <= 5; kind++) {
            due.is("a thing is no " + kind, x.as(0, kind), KIND);
        }
        due.is("a curtain is a curtain", x.as(1, 1), 7);
        due.is("a curtain is no copy", x.as(1, 3), KIND);
        Twins.refused(due, KIND, "as", 0, 5);
        Twins.refused(due, KIND, "as", 2, 1);
    }

    // ---- 5 turns

    @Sentence(of = "Promise 5", says = "A THING is of another KIND from now on: what it was.")
    static void turnsToTheLeastAndTheGreatest(Due due) {
        CopiedFire x = new CopiedFire();
        for (int i = 0; i < 12; i++) {
            x.thing(3, 0, 9, 0);
        }
        due.is("to the greatest", x.turns(11, 5), 3);
        due.is("to the least", x.turns(11, 0), 5);
        due.is("what it is", x.told(11, 0), 0);
        due.is("to what it is", x.turns(11, 0), 0);
        due.is("the first", x.turns(0, 1), 3);
        due.is("the one beside it stays", x.told(1, 0), 3);
    }

    @Sentence(of = "Promise 5", says = "BAD.")
    static void turnsIsBad(Due due) {
        int[][] wrong = {{-1, 0}, {3, 0}, {LOW, 0}, {0, -1}, {0, 6}, {0, BIG}};
        for (int[] w : wrong) {
            Twins.refused(due, BAD, "turns", w);
        }
    }

    // ---- 6 set

    @Sentence(of = "Promise 6", says = "ROOM, FUEL, LIT (what 1 .. 3) of a THING becomes v: what it was.")
    static void setsTheLeastAndTheGreatest(Due due) {
        int[] most = {0, 7, 99, 1};
        CopiedFire x = new CopiedFire();
        for (int i = 0; i < 12; i++) {
            x.thing(0, 0, 0, 0);
        }
        for (int what = 1; what <= 3; what++) {
            due.is("to the greatest", x.set(11, what, most[what]), 0);
            due.is("what it is", x.told(11, what), most[what]);
            due.is("the one beside it stays", x.told(10, what), 0);
        }
        for (int what = 1; what <= 3; what++) {
            due.is("to the least", x.set(11, what, 0), most[what]);
            due.is("what it is then", x.told(11, what), 0);
        }
    }

    @Sentence(of = "Promise 6", says = "BAD.")
    static void setIsBad(Due due) {
        int[][] wrong = {
            {-1, 1, 0}, {3, 1, 0}, {BIG, 1, 0}, {0, 0, 0}, {0, 4, 0}, {0, -1, 0}, {0, BIG, 0}, {0, 1, -1}, {0, 1, 8},
            {0, 2, -1}, {0, 2, 100}, {0, 3, -1}, {0, 3, 2}, {0, 1, LOW}, {0, 2, BIG}
        };
        for (int[] w : wrong) {
            Twins.refused(due, BAD, "set", w);
        }
    }

    // ---- 7 deal

    @Sentence(of = "Promise 7", says = "THINGS are drawn, n (1 .. 12) of them,")
    static void dealsFrom1To12(Due due) {
        CopiedFire x = new CopiedFire();
        due.is("one", x.deal(1), 1);
        due.is("it is there", x.count(0), 1);
        CopiedFire y = new CopiedFire();
        due.is("twelve", y.deal(12), 12);
        due.is("they are there", y.count(0), 12);
        due.is("the first of twelve is as the one", y.told(0, 2), x.told(0, 2));
    }

    @Sentence(of = "Promise 7", says = "as many as there is room for (no draws for others): how many came.")
    static void dealsAsManyAsThereIsRoomFor(Due due) {
        CopiedFire x = new CopiedFire();
        for (int i = 0; i < 11; i++) {
            x.thing(5, 0, 0, 0);
        }
        CopiedFire one = new CopiedFire();
        one.deal(1);
        due.is("room for one of twelve", x.deal(12), 1);
        due.is("draws for one alone", x.count(8), one.count(8));
        due.is("no room for one", x.deal(1), 0);
        due.is("no room for twelve", x.deal(12), 0);
        due.is("no draws", x.count(8), one.count(8));
        due.is("twelve", x.count(0), 12);
        Twins.refusedWhenFull(due, 0, "deal", 12);
    }

    @Sentence(of = "Promise 7", says = "BAD.")
    static void dealIsBad(Due due) {
        int[] wrong = {0, 13, -1, LOW, BIG};
        for (int n : wrong) {
            Twins.refused(due, BAD, "deal", n);
            Twins.refusedWhenFull(due, BAD, "deal", n);
        }
    }

    // ---- 8 seed

    @Sentence(of = "Promise 8", says = "z becomes v: what it was.")
    static void anySeed(Due due) {
        int[] seeds = {0, -1, BIG, LOW, BAD, NONE, 1};
        CopiedFire x = new CopiedFire();
        int was = 1;
        for (int v : seeds) {
            due.is("seed(" + v + ")", x.seed(v), was);
            due.is("z", x.count(8), v);
            was = v;
        }
    }
}
