import java.util.Arrays;

/** What the document says of all calls, and of THE HOUSE (Terms, Terms 1). */
final class EdgesOfTheHouse {
    private static final int BAD = CopiedFire.BAD;
    private static final int FULL = CopiedFire.FULL;
    private static final int NONE = CopiedFire.NONE;
    private static final int NOTHING = CopiedFire.NOTHING;
    private static final int KIND = CopiedFire.KIND;
    private static final int KINDS = 6;

    private EdgesOfTheHouse() {
    }

    @Sentence(of = "What it is",
        says = "An object is used for at most 512 calls after it has been made; what later calls answer is free.")
    static void the512thCallStillAnswers(Due due) {
        CopiedFire x = new CopiedFire();
        x.thing(0, 0, 99, 1);
        for (int i = 2; i <= 511; i++) {
            x.hired(60, 1);
        }
        due.is("the 512th call", x.minutes(100), 99);
    }

    // ---- of all calls

    @Sentence(of = "Terms", says = "All numbers are whole; / cuts towards 0.")
    static void cutsTowards0FromBothSides(Due due) {
        String[] texts = {"fee 7/2", "fee (0-7)/2", "fee 7/(0-2)", "fee (0-7)/(0-2)", "fee 1/2", "fee (0-1)/2"};
        int[] want = {3, -3, -3, 3, 0, 0};
        CopiedFire x = new CopiedFire();
        for (int i = 0; i < texts.length; i++) {
            Due.text(x, texts[i]);
            due.is(texts[i], x.fee(), want[i]);
        }
    }

    @Sentence(of = "Terms", says = "A call that is refused answers one of BAD, NO, FULL, or a FINDING, of several the one"
        + " that stands first with it,")
    static void ofSeveralTheFirst(Due due) {
        CopiedFire x = Twins.full();
        due.is("BAD; FULL", x.thing(6, 8, 100, 2), BAD);
        due.is("BAD; NOTHING", x.like(3, 2), BAD);
        due.is("BAD; NONE", x.way(2, 8), BAD);
        due.is("NOTHING; INDEX; KIND", x.mark(3, 24, NONE), NOTHING);
        due.is("KIND; INDEX", x.copy(0, 24, 1, 24, 24), KIND);
        due.is("KIND; NO", x.rest(0, 0), KIND);
        due.is("BAD; NO", new CopiedFire().check(31), BAD);
    }

    @Sentence(of = "Terms", says = "and changes nothing (but the tape and the numbers that wait, where told).")
    static void theTapeAndTheNumbersThatWaitWhereTold(Due due) {
        CopiedFire x = Twins.some();
        x.trim(11);
        due.is("a fault", x.text(), -111);
        due.is("the tape is used up", x.count(7), 0);
        due.is("the numbers still wait", x.count(6), 4);
        Due.onTape(x, "fee");
        due.is("refused", x.check(31), BAD);
        due.is("no number waits", x.count(6), 0);
        due.is("the tape stays", x.count(7), 3);
    }

    @Sentence(of = "Terms", says = "NONE: there is none.")
    static void noneOfAnEmptyHouse(Due due) {
        CopiedFire x = new CopiedFire();
        due.is("way", x.way(0, 7), NONE);
        due.is("hot", x.hot(0), NONE);
        due.is("shut", x.shut(1, 0), NONE);
        due.is("why", x.why(0), NONE);
        x.visitor(0);
        due.is("seats", x.seats(0), NONE);
        x.sheet(0, 0, 0);
        due.is("reads", x.reads(0), NONE);
        x.thing(5, 0, 1, 1);
        due.is("out", x.out(), NONE);
    }

    @Sentence(of = "Terms", says = "Sets of ROOMS, of THINGS are told by bits.")
    static void theFirstAndTheLastBit(Due due) {
        CopiedFire x = new CopiedFire();
        for (int i = 0; i < 12; i++) {
            x.thing(5, 0, 1, i == 0 || i == 11 ? 1 : 0);
        }
        due.is("things 0 and 11", x.house(3), 1 + 2048);
        due.is("behind", x.behind(0, 2), 1 + 2048);
        x.sheet(0, 0, 1);
        x.mark(0, 0, 1);
        due.is("all twelve", x.began(0), 4095);
        x.visitor(1);
        x.visitor(128);
        due.is("room 0", x.seats(0), 0);
        due.is("room 7", x.seats(1), 7);
    }

    // ---- rooms

    @Sentence(of = "Terms 1", says = "THE HOUSE has ROOMS 0 .. 7,")
    static void room7IsTheLast(Due due) {
        int[] wrong = {-1, 8, Integer.MIN_VALUE, Integer.MAX_VALUE};
        CopiedFire x = new CopiedFire();
        due.is("a thing in room 0", x.thing(0, 0, 0, 0), 0);
        due.is("a thing in room 7", x.thing(0, 7, 0, 0), 1);
        due.is("to room 7", x.set(0, 1, 7), 0);
        due.is("to room 0", x.set(1, 1, 0), 7);
        due.is("heat of 0", x.heats(0, 1), 0);
        due.is("heat of 7", x.heats(7, 2), 0);
        due.is("a door of both", x.door(0, 7, 2), 0);
        due.is("a way between them", x.way(7, 0), 1);
        for (int room : wrong) {
            due.is("thing in " + room, x.thing(0, room, 0, 0), BAD);
            due.is("to " + room, x.set(0, 1, room), BAD);
            due.is("heat of " + room, x.heat(room), BAD);
            due.is("heats of " + room, x.heats(room, 1), BAD);
            due.is("door from " + room, x.door(room, 0, 1), BAD);
            due.is("door to " + room, x.door(0, room, 1), BAD);
            due.is("doorTold from " + room, x.doorTold(room, 0), BAD);
            due.is("doorTold to " + room, x.doorTold(0, room), BAD);
            due.is("way from " + room, x.way(room, 0), BAD);
            due.is("way to " + room, x.way(0, room), BAD);
            due.is("hot of " + room, x.hot(room), BAD);
        }
    }

    @Sentence(of = "Terms 1", says = "each with HEAT 0 .. 99 (0 at first),")
    static void heatFrom0To99(Due due) {
        CopiedFire x = new CopiedFire();
        for (int room = 0; room < 8; room++) {
            due.is("at first", x.heat(room), 0);
            due.is("the greatest", x.heats(room, 99), 0);
            due.is("one more", x.heats(room, 100), BAD);
            due.is("99 still", x.heats(room, 0), 99);
            due.is("one less than the least", x.heats(room, -1), BAD);
            due.is("0 still", x.heat(room), 0);
        }
    }

    @Sentence(of = "Terms 1", says = "and between each two of them a DOOR: 0 none (at first), 1 shut, 2 open.")
    static void oneDoorBetweenEachTwo(Due due) {
        CopiedFire x = new CopiedFire();
        int doors = 0;
        for (int one = 0; one < 8; one++) {
            for (int other = one + 1; other < 8; other++) {
                due.is("at first", x.door(one, other, 1 + doors % 2), 0);
                doors++;
            }
        }
        due.is("doors", doors, 28);
        for (int one = 7; one >= 0; one--) {
            for (int other = 7; other > one; other--) {
                doors--;
                due.is("the same from the other side", x.doorTold(other, one), 1 + doors % 2);
            }
        }
        due.is("below none", x.door(0, 1, -1), BAD);
        due.is("more than open", x.door(0, 1, 3), BAD);
    }

    // ---- things

    @Sentence(of = "Terms 1", says = "THINGS, 12 at most, numbered from 0:")
    static void twelveThings(Due due) {
        CopiedFire x = new CopiedFire();
        for (int i = 0; i < 12; i++) {
            due.is("before there is one", x.told(i, 1), BAD);
            due.is("thing", x.thing(0, i % 8, 0, 0), i);
            due.is("its room", x.told(i, 1), i % 8);
        }
        due.is("the thirteenth", x.thing(0, 0, 0, 0), FULL);
        due.is("there are twelve", x.count(0), 12);
        due.is("no thing 12", x.told(12, 1), BAD);
        due.is("no thing -1", x.told(-1, 1), BAD);
    }

    @Sentence(of = "Terms 1", says = "ROOM, FUEL 0 .. 99, LIT (0, 1),")
    static void fuelFrom0To99AndLit0Or1(Due due) {
        CopiedFire x = new CopiedFire();
        due.is("the least fuel", x.thing(0, 0, 0, 0), 0);
        due.is("the greatest fuel, lit", x.thing(0, 0, 99, 1), 1);
        due.is("fuel -1", x.thing(0, 0, -1, 0), BAD);
        due.is("fuel 100", x.thing(0, 0, 100, 0), BAD);
        due.is("lit -1", x.thing(0, 0, 0, -1), BAD);
        due.is("lit 2", x.thing(0, 0, 0, 2), BAD);
        due.is("to the greatest", x.set(0, 2, 99), 0);
        due.is("to the least", x.set(1, 2, 0), 99);
        due.is("set fuel -1", x.set(0, 2, -1), BAD);
        due.is("set fuel 100", x.set(0, 2, 100), BAD);
        due.is("lights", x.set(0, 3, 1), 0);
        due.is("goes out", x.set(1, 3, 0), 1);
        due.is("set lit -1", x.set(0, 3, -1), BAD);
        due.is("set lit 2", x.set(0, 3, 2), BAD);
    }

    @Sentence(of = "Terms 1", says = "and of KINDS: 0 THING; 1 CURTAIN, 2 DAMP, 5 BLANK, under THING; 3 COPY, under CURTAIN;"
        + " 4 PLASTER, under DAMP (all are THINGS).")
    static void whichKindIsUnderWhich(Due due) {
        int[] aboveAndItself = {0b000001, 0b000011, 0b000101, 0b001011, 0b010101, 0b100001};
        CopiedFire x = new CopiedFire();
        due.is("kind -1", x.thing(-1, 0, 0, 0), BAD);
        due.is("kind 6", x.thing(6, 0, 0, 0), BAD);
        for (int kind = 0; kind < KINDS; kind++) {
            due.is("kind " + kind, x.thing(kind, 0, 9, 0), kind);
            for (int asked = 0; asked < KINDS; asked++) {
                boolean isOf = (aboveAndItself[kind] >> asked & 1) == 1;
                due.is(kind + " as " + asked, x.as(kind, asked), isOf ? 9 : KIND);
            }
        }
    }

    // ---- visitors, rules, what is counted

    @Sentence(of = "Terms 1", says = "VISITORS, 6 at most, numbered from 0: LIKES (ROOMS, as a set).")
    static void sixVisitors(Due due) {
        CopiedFire x = new CopiedFire();
        int[] likes = {0, 255, 1, 128, 254, 127};
        for (int i = 0; i < 6; i++) {
            due.is("before there is one", x.likes(i, 0), BAD);
            due.is("visitor", x.visitor(likes[i]), i);
        }
        due.is("the seventh", x.visitor(0), FULL);
        due.is("there are six", x.count(4), 6);
        for (int i = 0; i < 6; i++) {
            due.is("likes of " + i, x.likes(i, 255 - likes[i]), likes[i]);
        }
        due.is("no ninth room", x.likes(0, 256), BAD);
        due.is("no set below 0", x.likes(0, -1), BAD);
    }

    @Sentence(of = "Terms 1", says = "WIND 0 .. 100 (20 at first), COOL 0 .. 9 (2).")
    static void windAndCool(Due due) {
        CopiedFire x = new CopiedFire();
        due.is("wind to the greatest", x.rule(0, 100), 20);
        due.is("wind 101", x.rule(0, 101), BAD);
        due.is("wind to the least", x.rule(0, 0), 100);
        due.is("wind -1", x.rule(0, -1), BAD);
        due.is("wind", x.count(2), 0);
        due.is("cool to the greatest", x.rule(1, 9), 2);
        due.is("cool 10", x.rule(1, 10), BAD);
        due.is("cool to the least", x.rule(1, 0), 9);
        due.is("cool -1", x.rule(1, -1), BAD);
        due.is("cool", x.count(3), 0);
    }

    @Sentence(of = "Terms 1", says = "BURNT, ASHES, SLAMS are 0 at first;")
    static void nothingIsCountedAtFirst(Due due) {
        CopiedFire x = new CopiedFire();
        due.is("burnt", x.house(0), 0);
        due.is("ashes", x.house(1), 0);
        due.is("slams", x.house(2), 0);
        due.is("the fee is burnt", x.fee(), 0);
    }

    @Sentence(of = "Terms 1", says = "THE MINUTE is 0 at first, 9999 at most.")
    static void theLastMinute(Due due) {
        due.is("at first", new CopiedFire().count(1), 0);
        CopiedFire x = Twins.late(9998);
        due.is("the last but one", x.count(1), 9998);
        x.minutes(1);
        due.is("the last", x.count(1), 9999);
        x.minutes(1);
        due.is("the last still", x.count(1), 9999);
        x.minutes(100);
        due.is("the last whatever comes", x.count(1), 9999);
    }

    // ---- what kinds do

    /** One thing of each kind, thing k of kind k in room k, with so much fuel. */
    private static CopiedFire oneOfEach(int fuel) {
        CopiedFire x = Twins.still();
        for (int kind = 0; kind < KINDS; kind++) {
            x.thing(kind, kind, fuel, 0);
        }
        return x;
    }

    private static int[] toldOfEach(CopiedFire x, int what) {
        int[] told = new int[KINDS];
        for (int kind = 0; kind < KINDS; kind++) {
            told[kind] = x.told(kind, what);
        }
        return told;
    }

    private static void areTold(Due due, String of, CopiedFire x, int what, int... want) {
        int[] told = toldOfEach(x, what);
        due.holds(of + ": " + Arrays.toString(told) + ", due are " + Arrays.toString(want), Arrays.equals(told, want));
    }

    @Sentence(of = "Terms 1", says = "PLAIN burn: what burn gives, held within 0 .. 99 (without a TEXT: 5).")
    static void plainIsHeld(Due due) {
        String[] laws = {
            "burn 0-1", "burn 0", "burn 1", "burn 98", "burn 99", "burn 100", "burn 0-9999*9999*20", "burn 9999*9999*20",
            "burn 9999*9999*30"
        };
        // the last one wraps to below 0
        int[] want = {0, 0, 1, 98, 99, 99, 0, 99, 0};
        CopiedFire x = oneOfEach(50);
        due.is("without a text", x.told(0, 4), 5);
        for (int i = 0; i < laws.length; i++) {
            Due.text(x, laws[i]);
            due.is(laws[i], x.told(0, 4), want[i]);
        }
    }

    @Sentence(of = "Terms 1", says = "BURNS: THING: PLAIN. CURTAIN: as THING, and 2. COPY: twice as CURTAIN."
        + " DAMP: half (cut) of as THING. PLASTER: as DAMP, less 1 (0 at least). BLANK: 0.")
    static void burnsOfTheLeastAndTheGreatest(Due due) {
        CopiedFire x = oneOfEach(99);
        areTold(due, "plain 5", x, 4, 5, 7, 2, 14, 1, 0);
        String[] laws = {"burn 0", "burn 1", "burn 2", "burn 3", "burn 4", "burn 98", "burn 99"};
        int[][] want = {
            {0, 2, 0, 4, 0, 0}, {1, 3, 0, 6, 0, 0}, {2, 4, 1, 8, 0, 0}, {3, 5, 1, 10, 0, 0}, {4, 6, 2, 12, 1, 0},
            {98, 100, 49, 200, 48, 0}, {99, 101, 49, 202, 48, 0}
        };
        for (int i = 0; i < laws.length; i++) {
            Due.text(x, laws[i]);
            areTold(due, laws[i], x, 4, want[i]);
        }
    }

    @Sentence(of = "Terms 1", says = "GIVES (of so much that it burns): THING: that. CURTAIN: as THING, and 3."
        + " DAMP: half (cut) of as THING.")
    static void givesOfTheLeastAndTheGreatest(Due due) {
        CopiedFire x = oneOfEach(99);
        areTold(due, "plain 5", x, 5, 5, 10, 1, 17, 0, 0);
        String[] laws = {"burn 0", "burn 2", "burn 4", "burn 6", "burn 99"};
        int[][] want = {
            {0, 5, 0, 7, 0, 0}, {2, 7, 0, 11, 0, 0}, {4, 9, 1, 15, 0, 0}, {6, 11, 1, 19, 1, 0}, {99, 104, 24, 205, 24, 0}
        };
        for (int i = 0; i < laws.length; i++) {
            Due.text(x, laws[i]);
            areTold(due, laws[i], x, 5, want[i]);
        }
    }

    @Sentence(of = "Terms 1", says = "CATCHES (from which HEAT on): THING: 20. CURTAIN: as THING, less 8."
        + " COPY: half (cut) of as CURTAIN. DAMP: as THING, and 15. PLASTER: twice as DAMP. BLANK: 100.")
    static void catchesWhateverTheFuelAndTheHeat(Due due) {
        areTold(due, "no fuel", oneOfEach(0), 6, 20, 12, 35, 6, 70, 100);
        areTold(due, "the most fuel", oneOfEach(99), 6, 20, 12, 35, 6, 70, 100);
    }

    @Sentence(of = "Terms 1", says = "WORTH: THING: FUEL. CURTAIN: as THING, and 4. COPY: twice as CURTAIN."
        + " DAMP: 120 less FUEL. PLASTER: as DAMP, less 6. BLANK: 3.")
    static void worthOfTheLeastAndTheMostFuel(Due due) {
        areTold(due, "no fuel", oneOfEach(0), 7, 0, 4, 120, 8, 114, 3);
        areTold(due, "fuel 1", oneOfEach(1), 7, 1, 5, 119, 10, 113, 3);
        areTold(due, "the most fuel", oneOfEach(99), 7, 99, 103, 21, 206, 15, 3);
    }

    @Sentence(of = "Terms 1", says = "(A KIND that is not named does as the one above it.)")
    static void givesAsTheKindAbove(Due due) {
        CopiedFire x = oneOfEach(1);
        for (int kind = 0; kind < KINDS; kind++) {
            x.set(kind, 3, 1);
        }
        x.minutes(1);
        due.is("a copy burns 1 and gives as a curtain", x.heat(3), 4);
        due.is("a plaster burns 1 and gives as a damp one", x.heat(4), 0);
        due.is("a blank burns 0 and gives as a thing", x.heat(5), 0);
    }
}
