/** Promises 18 to 29: minutes, house, behind, out, hot, shut, hired, becomes, began, like, fee, fine. */
final class EdgesOfWhatWillBeCalls {
    private static final int BAD = CopiedFire.BAD;
    private static final int NONE = CopiedFire.NONE;
    private static final int NOTHING = CopiedFire.NOTHING;
    private static final int LOW = Integer.MIN_VALUE;
    private static final int BIG = Integer.MAX_VALUE;

    private EdgesOfWhatWillBeCalls() {
    }

    private static void allBad(Due due, String name, int[][] wrong) {
        for (int[] args : wrong) {
            Twins.refused(due, BAD, name, args);
        }
    }

    /** A thing with the most fuel that burns one a minute, and nothing else. */
    private static CopiedFire oneAMinute(int minute) {
        CopiedFire x = Twins.late(minute);
        x.thing(0, 0, 99, 1);
        Due.text(x, "burn 1");
        return x;
    }

    // ---- 18 minutes

    @Sentence(of = "Promise 18", says = "n (1 .. 100) MINUTES")
    static void from1To100Minutes(Due due) {
        CopiedFire x = oneAMinute(0);
        due.is("one", x.minutes(1), 1);
        due.is("the minute", x.count(1), 1);
        x.set(0, 2, 99);
        due.is("a hundred, of which 99 burn", x.minutes(100), 99);
        due.is("the minute then", x.count(1), 101);
    }

    @Sentence(of = "Promise 18", says = "(no more than up to 9999):")
    static void noMoreThanUpTo9999(Due due) {
        CopiedFire x = oneAMinute(9899);
        due.is("a hundred up to the last", x.behind(100, 0), 99);
        CopiedFire y = oneAMinute(9997);
        due.is("two of a hundred", y.minutes(100), 2);
        due.is("the last", y.count(1), 9999);
        int z = y.count(8);
        due.is("none of one", y.minutes(1), 0);
        due.is("none of a hundred", y.minutes(100), 0);
        due.is("no draw", y.count(8), z);
        due.is("no heat", y.heat(0), 2);
        CopiedFire last = oneAMinute(9998);
        due.is("just the last", last.minutes(1), 1);
        due.is("the last it is", last.count(1), 9999);
        x.minutes(100);
        due.is("9899 and a hundred", x.count(1), 9999);
    }

    @Sentence(of = "Promise 18", says = "by how much BURNT is more.")
    static void byHowMuchBurntIsMore(Due due) {
        CopiedFire x = oneAMinute(0);
        x.minutes(40);
        due.is("more", x.minutes(2), 2);
        due.is("burnt", x.house(0), 42);
        x.set(0, 3, 0);
        x.heats(0, 0);
        due.is("none", x.minutes(100), 0);
    }

    @Sentence(of = "Promise 18", says = "BAD.")
    static void minutesIsBad(Due due) {
        allBad(due, "minutes", new int[][] {{0}, {-1}, {101}, {LOW}, {BIG}});
        Twins.leaves(due, () -> Twins.late(9999), BAD, "minutes", 101);
    }

    // ---- 19 house

    @Sentence(of = "Promise 19", says = "What is 0 BURNT, 1 ASHES, 2 SLAMS, 3 THINGS that are LIT, as a set,"
        + " 4 all HEAT, together, 5 how many VISITORS there are.")
    static void theHouseWithMuchOfAll(Due due) {
        CopiedFire x = Twins.still();
        for (int i = 0; i < 12; i++) {
            x.thing(5, 0, i < 2 ? 0 : 1, 1);
        }
        due.is("all are lit", x.house(3), 4095);
        x.turns(11, 0);
        x.minutes(1);
        due.is("burnt", x.house(0), 1);
        due.is("ashes", x.house(1), 3);
        due.is("lit", x.house(3), 0b011111111100);
        for (int room = 0; room < 8; room++) {
            x.heats(room, 99);
        }
        due.is("all heat", x.house(4), 792);
        for (int i = 0; i < 6; i++) {
            due.is("visitors", x.house(5), i);
            x.visitor(0);
        }
        due.is("six visitors", x.house(5), 6);
        x.rule(0, 100);
        for (int one = 0; one < 8; one++) {
            for (int other = one + 1; other < 8; other++) {
                x.door(one, other, 1);
            }
        }
        due.is("no slams yet", x.house(2), 0);
        x.minutes(100);
        int slams = x.house(2);
        due.holds("at most one a minute", slams > 50 && slams <= 100);
    }

    @Sentence(of = "Promise 19", says = "BAD.")
    static void houseIsBad(Due due) {
        allBad(due, "house", new int[][] {{-1}, {6}, {LOW}, {BIG}});
    }

    // ---- 20 behind

    @Sentence(of = "Promise 20", says = "BEHIND n (0 .. 100) MINUTES:")
    static void from0To100MinutesBehind(Due due) {
        CopiedFire x = oneAMinute(0);
        due.is("none", x.behind(0, 0), 0);
        due.is("one", x.behind(1, 0), 1);
        due.is("99", x.behind(99, 1), 1);
        due.is("98", x.behind(98, 1), 0);
        Due.text(x, "burn n=99");
        due.is("99 of them", x.behind(99, 0), 0);
        due.is("the hundredth", x.behind(100, 0), 1);
    }

    @Sentence(of = "Promise 20", says = "what 0 BURNT, 1 ASHES, 2 THINGS that are LIT, as a set, 3 all HEAT, together;"
        + " 4 and k: HEAT of ROOM k.")
    static void whatIsToldBehind(Due due) {
        CopiedFire x = Twins.still();
        x.thing(0, 0, 5, 1);
        x.thing(5, 0, 1, 1);
        for (int room = 1; room < 8; room++) {
            x.heats(room, 10 * room);
        }
        int[] want = {5, 1, 0b10, 285, 5, 10, 20, 30, 40, 50, 60, 70};
        for (int what = 0; what <= 11; what++) {
            due.is("behind(1, " + what + ")", x.behind(1, what), want[what]);
        }
    }

    @Sentence(of = "Promise 20", says = "BAD.")
    static void behindIsBad(Due due) {
        allBad(due, "behind", new int[][] {{-1, 0}, {101, 0}, {LOW, 0}, {BIG, 0}, {0, -1}, {0, 12}, {100, LOW}, {100, BIG}});
    }

    // ---- 21 out, 22 hot

    @Sentence(of = "Promise 21", says = "OUT.")
    static void outNowAndAtLast(Due due) {
        CopiedFire x = oneAMinute(0);
        due.is("behind 99", x.out(), 99);
        x.set(0, 3, 0);
        due.is("now", x.out(), 0);
    }

    @Sentence(of = "Promise 21", says = "NONE: not by then.")
    static void notOutByThen(Due due) {
        CopiedFire x = Twins.still();
        x.thing(0, 0, 1, 1);
        Due.text(x, "burn n=199");
        due.is("at the last", x.out(), 200);
        x.minutes(1);
        due.is("one ahead of it", x.out(), 199);
        Due.text(x, "burn n=201");
        due.is("one too late", x.out(), NONE);
        Twins.leaves(due, () -> lit(5), NONE, "out");
    }

    private static CopiedFire lit(int kind) {
        CopiedFire x = Twins.still();
        x.thing(kind, 0, 1, 1);
        return x;
    }

    @Sentence(of = "Promise 22", says = "HOT of a ROOM.")
    static void hotOfTheFirstAndTheLast(Due due) {
        CopiedFire x = oneAMinute(0);
        x.heats(7, 49);
        x.thing(0, 7, 9, 1);
        due.is("room 0 by one a minute", x.hot(0), 50);
        due.is("room 7", x.hot(7), 1);
    }

    @Sentence(of = "Promise 22", says = "BAD;")
    static void hotIsBad(Due due) {
        allBad(due, "hot", new int[][] {{-1}, {8}, {LOW}, {BIG}});
    }

    @Sentence(of = "Promise 22", says = "BAD; NONE: not by then.")
    static void notHotByThen(Due due) {
        CopiedFire x = Twins.still();
        x.thing(0, 7, 1, 1);
        x.heats(7, 49);
        Due.text(x, "burn n=199");
        due.is("at the last", x.hot(7), 200);
        Due.text(x, "burn n=200");
        due.is("one too late", x.hot(7), NONE);
        due.is("bad first", x.hot(8), BAD);
        Twins.leaves(due, () -> lit(5), NONE, "hot", 7);
    }

    // ---- 23 shut, 24 hired, 25 becomes

    @Sentence(of = "Promise 23", says = "SHUT for n (1 .. 60): what 0 the lesser ROOM, 1 the other one, 2 BURNT.")
    static void shutFor1And60(Due due) {
        CopiedFire x = oneAMinute(0);
        x.door(7, 6, 2);
        due.is("the lesser room", x.shut(1, 0), 6);
        due.is("the other one", x.shut(1, 1), 7);
        due.is("burnt for 1", x.shut(1, 2), 1);
        due.is("burnt for 60", x.shut(60, 2), 60);
        due.is("the door is open", x.doorTold(6, 7), 2);
    }

    @Sentence(of = "Promise 23", says = "BAD;")
    static void shutIsBad(Due due) {
        allBad(due, "shut", new int[][] {{0, 0}, {-1, 0}, {61, 0}, {LOW, 0}, {BIG, 0}, {1, -1}, {1, 3}, {60, LOW}, {60, BIG}});
    }

    @Sentence(of = "Promise 23", says = "BAD; NONE: no DOOR is open.")
    static void noDoorIsOpen(Due due) {
        CopiedFire x = Twins.still();
        for (int what = 0; what <= 2; what++) {
            due.is("no doors", x.shut(60, what), NONE);
        }
        x.door(0, 1, 1);
        due.is("a shut one", x.shut(1, 0), NONE);
        due.is("bad first", x.shut(61, 0), BAD);
        due.is("bad first by what", x.shut(1, 3), BAD);
        Twins.leaves(due, () -> lit(0), NONE, "shut", 60, 2);
    }

    @Sentence(of = "Promise 24", says = "HIRED for n (1 .. 60): what 0 WIND, 1 BURNT.")
    static void hiredFor1And60(Due due) {
        CopiedFire x = oneAMinute(0);
        x.rule(0, 100);
        due.is("the wind", x.hired(1, 0), 0);
        due.is("burnt for 1", x.hired(1, 1), 1);
        due.is("burnt for 60", x.hired(60, 1), 60);
        due.is("the wind is as it was", x.count(2), 100);
    }

    @Sentence(of = "Promise 24", says = "BAD.")
    static void hiredIsBad(Due due) {
        allBad(due, "hired", new int[][] {{0, 0}, {-1, 0}, {61, 0}, {LOW, 0}, {BIG, 0}, {1, -1}, {1, 2}, {60, LOW}, {60, BIG}});
    }

    @Sentence(of = "Promise 25", says = "BECOMES of a THING, for n (1 .. 60): what 0 the KIND, 1 BURNT.")
    static void becomesFor1And60(Due due) {
        CopiedFire x = oneAMinute(0);
        for (int i = 1; i < 12; i++) {
            x.thing(5, 7, 9, 0);
        }
        due.is("the first: a damp one burns half of 1", x.becomes(0, 60, 0), 2);
        due.is("nothing burns", x.becomes(0, 60, 1), 0);
        due.is("the last: a thing", x.becomes(11, 60, 0), 0);
        due.is("burnt for 1", x.becomes(11, 1, 1), 1);
        due.is("burnt for 60", x.becomes(11, 60, 1), 60);
        due.is("it is what it was", x.told(11, 0), 5);
    }

    @Sentence(of = "Promise 25", says = "BAD.")
    static void becomesIsBad(Due due) {
        allBad(due, "becomes", new int[][] {
            {-1, 1, 0}, {3, 1, 0}, {LOW, 1, 0}, {0, 0, 0}, {0, -1, 0}, {0, 61, 0}, {0, BIG, 0}, {0, 1, -1}, {0, 1, 2},
            {0, 60, LOW}
        });
    }

    // ---- 26 began, 27 like

    @Sentence(of = "Promise 26", says = "BEGAN by a SHEET, as a set.")
    static void beganByTheFirstAndTheLastSheet(Due due) {
        for (int sheet = 0; sheet <= 3; sheet++) {
            CopiedFire x = Twins.still();
            for (int i = 0; i < 12; i++) {
                x.thing(5, 0, i == 0 || i == 11 ? 1 : 0, 0);
            }
            x.sheet(sheet, 1, 0);
            due.is("the first and the last thing", x.began(sheet), 1 + 2048);
            x.sheet(sheet, 1, 1);
            due.is("none", x.began(sheet), 0);
        }
    }

    @Sentence(of = "Promise 26", says = "BAD;")
    static void beganIsBad(Due due) {
        allBad(due, "began", new int[][] {{-1}, {4}, {LOW}, {BIG}});
    }

    @Sentence(of = "Promise 26", says = "BAD; NOTHING.")
    static void beganByAMissingSheet(Due due) {
        Twins.refused(due, NOTHING, "began", 3);
        Twins.refusedWhenFull(due, NOTHING, "began", 3);
    }

    @Sentence(of = "Promise 27", says = "LIKE by a SHEET: what 0 the ROOM, 1 the differences, together.")
    static void likeByTheFirstAndTheLastSheet(Due due) {
        for (int sheet = 0; sheet <= 3; sheet++) {
            CopiedFire x = Twins.still();
            x.heats(7, 99);
            x.sheet(sheet, 0, 2);
            x.mark(sheet, 0, 99);
            x.mark(sheet, 1, 98);
            due.is("the last room", x.like(sheet, 0), 7);
            due.is("the differences", x.like(sheet, 1), 1);
        }
    }

    @Sentence(of = "Promise 27", says = "BAD;")
    static void likeIsBad(Due due) {
        allBad(due, "like", new int[][] {{-1, 0}, {4, 0}, {LOW, 0}, {BIG, 0}, {0, -1}, {0, 2}, {0, LOW}, {0, BIG}});
    }

    @Sentence(of = "Promise 27", says = "BAD; NOTHING.")
    static void likeByAMissingSheet(Due due) {
        Twins.refused(due, NOTHING, "like", 3, 0);
        Twins.refused(due, NOTHING, "like", 3, 1);
        Twins.refused(due, BAD, "like", 3, 2);
        Twins.refused(due, BAD, "like", 3, -1);
    }

    // ---- 28 fee, 29 fine

    @Sentence(of = "Promise 28", says = "What fee gives.")
    static void whateverFeeGives(Due due) {
        CopiedFire x = new CopiedFire();
        Due.text(x, "fee 8192*8192*32");
        due.is("the least int", x.fee(), LOW);
        Due.text(x, "fee 8192*8192*32-1");
        due.is("the greatest int", x.fee(), BIG);
        Due.text(x, "fee 0-b");
        due.is("0", x.fee(), 0);
        Due.text(x, "fee 0-9999*9999*10-9999*1000-1*1106-5");
        due.is("it is held in no way", x.fee(), -999800010 - 9999000 - 1111);
    }

    @Sentence(of = "Promise 29", says = "What fine gives for a THING.")
    static void whateverFineGives(Due due) {
        CopiedFire x = new CopiedFire();
        for (int i = 0; i < 12; i++) {
            x.thing(0, i % 8, 99 - i, 0);
        }
        due.is("the first", x.fine(0), 99);
        due.is("the last", x.fine(11), 88);
        Due.text(x, "fine (0-f)*r");
        due.is("below 0", x.fine(11), -264);
        due.is("room 0", x.fine(0), 0);
        Due.text(x, "fine f*9999*9999");
        due.is("it wraps", x.fine(0), (int) (99L * 9999 * 9999));
    }

    @Sentence(of = "Promise 29", says = "BAD.")
    static void fineIsBad(Due due) {
        allBad(due, "fine", new int[][] {{-1}, {3}, {12}, {LOW}, {BIG}});
        Twins.refusedWhenFull(due, BAD, "fine", 12);
    }
}
