import java.util.Arrays;
import java.util.function.IntPredicate;
import java.util.function.IntUnaryOperator;

/** WAY, SEATS, BEGAN, and all that is only thought (Terms 3). */
final class EdgesOfThought {
    private static final int NONE = CopiedFire.NONE;

    private EdgesOfThought() {
    }

    @Sentence(of = "Terms 3", says = "WAY from a ROOM to another one: by how few open DOORS.")
    static void theLongestAndTheShortestWay(Due due) {
        CopiedFire x = new CopiedFire();
        for (int room = 0; room < 7; room++) {
            x.door(room, room + 1, 2);
        }
        due.is("through all rooms", x.way(0, 7), 7);
        due.is("and back", x.way(7, 0), 7);
        x.door(0, 7, 1);
        due.is("a shut door is no way", x.way(0, 7), 7);
        x.door(0, 7, 2);
        due.is("one door", x.way(0, 7), 1);
        due.is("half around", x.way(0, 4), 4);
        x.door(3, 4, 0);
        due.is("the other way around", x.way(3, 4), 7);
    }

    // ---- seats

    private static CopiedFire visitorsWho(int... likes) {
        CopiedFire x = new CopiedFire();
        for (int set : likes) {
            x.visitor(set);
        }
        return x;
    }

    private static void areSeated(Due due, String of, CopiedFire x, int... rooms) {
        int seated = 0;
        for (int i = 0; i < rooms.length; i++) {
            due.is(of + ": visitor " + i, x.seats(i), rooms[i]);
            seated += rooms[i] == NONE ? 0 : 1;
        }
        due.is(of + ": together", x.seats(-1), seated);
    }

    @Sentence(of = "Terms 3",
        says = "SEATS: VISITORS are given ROOMS, each one of those it LIKES in which HEAT is below 30 now,")
    static void below30(Due due) {
        int[] heats = {0, 29, 30, 99};
        for (int heat : heats) {
            CopiedFire x = visitorsWho(128);
            x.heats(7, heat);
            areSeated(due, "heat " + heat, x, heat < 30 ? 7 : NONE);
        }
        areSeated(due, "one likes none", visitorsWho(0), NONE);
        areSeated(due, "there are none", visitorsWho());
    }

    @Sentence(of = "Terms 3", says = "no two the same,")
    static void oneRoomForSix(Due due) {
        areSeated(due, "room 0", visitorsWho(1, 1, 1, 1, 1, 1), 0, NONE, NONE, NONE, NONE, NONE);
    }

    @Sentence(of = "Terms 3", says = "so that as many as can be have one;")
    static void allSixMakeRoom(Due due) {
        areSeated(due, "the last likes room 0 alone", visitorsWho(3, 6, 12, 24, 48, 1), 1, 2, 3, 4, 5, 0);
        areSeated(due, "one of the first two makes room", visitorsWho(7, 7, 1, 2), 0, 2, NONE, 1);
        areSeated(due, "both make room", visitorsWho(15, 15, 1, 2), 2, 3, 0, 1);
    }

    @Sentence(of = "Terms 3", says = "of several such ways that by which VISITOR 0 has the least ROOM")
    static void theLeastRoom(Due due) {
        CopiedFire x = visitorsWho(255, 255, 255, 255, 255, 255);
        areSeated(due, "all like all", x, 0, 1, 2, 3, 4, 5);
        x.heats(0, 30);
        x.heats(1, 30);
        areSeated(due, "the least two are hot", x, 2, 3, 4, 5, 6, 7);
    }

    @Sentence(of = "Terms 3", says = "(none behind all),")
    static void noneIsBehindRoom7(Due due) {
        areSeated(due, "room 7 or none", visitorsWho(128, 128), 7, NONE);
    }

    @Sentence(of = "Terms 3", says = "then VISITOR 1, ..")
    static void theNextHasTheLeastThatIsLeft(Due due) {
        areSeated(due, "0 has 3 whatever comes", visitorsWho(8, 0b11001000, 0b11001000), 3, 6, 7);
        areSeated(due, "the last one goes without", visitorsWho(8, 0b11000000, 0b11000000, 0b11000000), 3, 6, 7, NONE);
    }

    // ---- began

    private static CopiedFire blanks(int... fuels) {
        CopiedFire x = Twins.still();
        for (int fuel : fuels) {
            x.thing(5, 0, fuel, 1);
        }
        return x;
    }

    private static void fill(CopiedFire x, int sort, int... places) {
        x.sheet(0, sort, places.length);
        for (int k = 0; k < places.length; k++) {
            x.mark(0, k, places[k]);
        }
    }

    @Sentence(of = "Terms 3", says = "BEGAN by a SHEET: all THINGS with FUEL with which,")
    static void withFuelAlone(Due due) {
        CopiedFire x = blanks(0, 1, 0, 99);
        fill(x, 0);
        due.is("no places", x.began(0), 0b1010);
        fill(x, 0, 1);
        due.is("one place", x.began(0), 0b1010);
        CopiedFire y = Twins.still();
        fill(y, 0);
        due.is("no things", y.began(0), 0);
    }

    @Sentence(of = "Terms 3", says = "were just that one of them all LIT now,")
    static void theOthersAreNotLit(Due due) {
        CopiedFire x = blanks(1, 1, 1, 1, 1, 1, 1, 1, 1, 1, 1, 1);
        fill(x, 0, 1, 1);
        due.is("one is lit, whichever", x.began(0), 4095);
        fill(x, 0, 12, 12);
        due.is("not all twelve", x.began(0), 0);
        x.set(0, 3, 0);
        fill(x, 0, 1, 1);
        due.is("one that is not lit now could be", x.began(0), 4095);
    }

    @Sentence(of = "Terms 3", says = "as many would be LIT behind k MINUTES as place k of the SHEET tells,")
    static void asFarAsPlace23(Due due) {
        CopiedFire x = blanks(1);
        // behind 23 minutes 115 of it would be burnt: it has 99, and is out behind 20
        x.thing(0, 1, 99, 0);
        int[] places = new int[24];
        Arrays.fill(places, 1);
        fill(x, 0, places);
        due.is("lit all the time", x.began(0), 0b01);
        x.mark(0, 23, 0);
        due.is("none at the last place", x.began(0), 0);
        for (int k = 20; k < 24; k++) {
            x.mark(0, k, 0);
        }
        due.is("out behind 20", x.began(0), 0b10);
        x.mark(0, 20, 1);
        due.is("not behind 21", x.began(0), 0);
    }

    @Sentence(of = "Terms 3", says = "for all places that are numbers (k from 0 on).")
    static void placesThatAreNoNumbers(Due due) {
        CopiedFire x = blanks(1);
        x.thing(0, 1, 5, 0);
        fill(x, 1, NONE, NONE, NONE);
        due.is("no numbers at all", x.began(0), 0b11);
        fill(x, 1, NONE, 0);
        due.is("out behind one minute", x.began(0), 0b10);
        fill(x, 1, NONE, NONE, 1);
        due.is("lit behind two", x.began(0), 0b01);
        fill(x, 1, 0, NONE, NONE);
        due.is("place 0 is now", x.began(0), 0);
    }

    // ---- only thought

    @Sentence(of = "Terms 3", says = "(All that follows, and BEGAN, is only thought,")
    static void whatIsOnlyThought(Due due) {
        int[][] calls = {{0, 100, 2}, {1}, {2, 7}, {3, 60, 0}, {4, 60, 0}, {5, 0, 60, 0}, {6, 0}, {7, 1, 1}};
        String[] names = {"behind", "out", "hot", "shut", "hired", "becomes", "began", "like"};
        for (int[] call : calls) {
            int[] args = Arrays.copyOfRange(call, 1, call.length);
            String name = names[call[0]];
            Twins.leaves(due, Twins::some, Twins.answer(Twins.some(), name, args), name, args);
            Twins.leaves(due, Twins::full, Twins.answer(Twins.full(), name, args), name, args);
        }
    }

    @Sentence(of = "Terms 3", says = "z as it is,")
    static void zAsItIs(Due due) {
        for (int seed = -3; seed <= 3; seed++) {
            CopiedFire x = Twins.some();
            x.rule(0, 100);
            x.seed(seed);
            CopiedFire y = Twins.some();
            y.rule(0, 100);
            y.seed(seed);
            due.is("seed " + seed + ": the same twice", x.behind(40, 3), x.behind(40, 3));
            y.minutes(40);
            due.is("seed " + seed + ": as it comes", x.behind(40, 3), y.house(4));
            due.is("seed " + seed + ": z stays", x.count(8), seed);
        }
    }

    @Sentence(of = "Terms 3", says = "without the bound of THE MINUTE:")
    static void beyondTheLastMinute(Due due) {
        CopiedFire x = Twins.late(9999);
        Due.text(x, "burn n-9998");
        x.thing(0, 0, 99, 1);
        x.thing(0, 1, 9, 0);
        x.door(0, 1, 2);
        x.door(0, 2, 2);
        due.is("now none burn", x.minutes(1), 0);
        due.is("behind: 1, 2, 3", x.behind(3, 0), 6);
        due.is("becomes: 1, 2 .. 13 by thing 0 alone", x.becomes(1, 13, 1), 91);
        due.is("hired", x.hired(2, 1), 3);
        due.is("shut", x.shut(2, 2), 3);
        x.door(0, 1, 0);
        x.door(0, 2, 0);
        due.is("out: 91 behind 13, and 8 are left", x.out(), 14);
        due.is("hot by 1 and 2 .. 10, which are 55", x.hot(0), 10);
        x.sheet(0, 0, 4);
        x.mark(0, 1, 1);
        x.mark(0, 2, 3);
        x.mark(0, 3, 6);
        due.is("like, by room 0", x.like(0, 0), 0);
        due.is("like, with no difference", x.like(0, 1), 0);
        x.sheet(0, 1, 15);
        for (int k = 0; k < 14; k++) {
            x.mark(0, k, NONE);
        }
        due.is("began by thing 0, out behind 14, or by thing 1", x.began(0), 0b11);
        x.mark(0, 13, 1);
        due.is("began by thing 0, lit behind 13", x.began(0), 0b01);
        due.is("still the last minute", x.count(1), 9999);
    }

    @Sentence(of = "Terms 3", says = "nothing changes.)")
    static void whatComesIsAsIfNotThought(Due due) {
        CopiedFire x = Twins.some();
        x.behind(100, 0);
        x.shut(60, 0);
        x.hired(60, 0);
        x.becomes(2, 60, 0);
        CopiedFire y = Twins.some();
        due.is("minutes behind a thought", x.minutes(30), y.minutes(30));
        due.holds("the house behind them", Twins.houseOf(x).equals(Twins.houseOf(y)));
    }

    @Sentence(of = "Terms 3", says = "BEHIND n MINUTES: BURNT; ASHES; THINGS that are LIT, as a set; all HEAT, together;"
        + " HEAT of a ROOM.")
    static void behindNoneAndAHundred(Due due) {
        for (int n = 0; n <= 100; n += 100) {
            CopiedFire x = Twins.full();
            CopiedFire y = Twins.full();
            if (n > 0) {
                y.minutes(n);
            }
            due.is(n + ": burnt", x.behind(n, 0), y.house(0));
            due.is(n + ": ashes", x.behind(n, 1), y.house(1));
            due.is(n + ": lit", x.behind(n, 2), y.house(3));
            due.is(n + ": all heat", x.behind(n, 3), y.house(4));
            for (int room = 0; room < 8; room++) {
                due.is(n + ": heat of " + room, x.behind(n, 4 + room), y.heat(room));
            }
        }
    }

    @Sentence(of = "Terms 3", says = "OUT: behind how many MINUTES (0 .. 200) no THING is LIT first.")
    static void outBehind0And200(Due due) {
        CopiedFire x = Twins.still();
        due.is("there are no things", x.out(), 0);
        x.thing(0, 0, 1, 0);
        due.is("none is lit", x.out(), 0);
        x.set(0, 3, 1);
        due.is("behind one", x.out(), 1);
        String[] laws = {"burn n=198", "burn n=199", "burn n=200"};
        int[] want = {199, 200, NONE};
        for (int i = 0; i < laws.length; i++) {
            Due.text(x, laws[i]);
            due.is(laws[i], x.out(), want[i]);
        }
        CopiedFire y = Twins.still();
        y.thing(0, 0, 0, 1);
        y.thing(0, 0, 9, 0);
        y.heats(0, 20);
        due.is("one catches as the other goes out", y.out(), 3);
        y.heats(0, 0);
        y.heats(1, 99);
        y.rule(1, 0);
        y.door(0, 1, 2);
        y.set(0, 2, 5);
        due.is("the other one catches in the same minute", y.out(), 3);
        y.door(0, 1, 1);
        due.is("first, though another might catch then", y.out(), 1);
    }

    @Sentence(of = "Terms 3", says = "HOT of a ROOM: behind how many MINUTES (0 .. 200) its HEAT is 50 or more first.")
    static void hotBehind0And200(Due due) {
        CopiedFire x = Twins.still();
        x.heats(7, 50);
        due.is("50 now", x.hot(7), 0);
        x.heats(7, 99);
        due.is("more now", x.hot(7), 0);
        x.heats(7, 49);
        due.is("49 for ever", x.hot(7), NONE);
        x.thing(0, 7, 50, 1);
        due.is("54 behind one", x.hot(7), 1);
        String[] laws = {"burn n=198", "burn n=199", "burn n=200"};
        int[] want = {199, 200, NONE};
        for (int i = 0; i < laws.length; i++) {
            Due.text(x, laws[i]);
            due.is(laws[i], x.hot(7), want[i]);
        }
        due.is("another room", x.hot(0), NONE);
    }

    // ---- which had best be

    @Sentence(of = "Terms 3", says = "SHUT for n: the open DOOR with which, being shut now, BURNT is least behind n MINUTES;")
    static void theDoorToShut(Due due) {
        CopiedFire x = Twins.still();
        x.thing(0, 0, 40, 1);
        x.heats(0, 90);
        x.thing(0, 6, 40, 0);
        x.thing(3, 7, 40, 0);
        x.door(0, 6, 2);
        x.door(0, 7, 2);
        x.door(0, 1, 1);
        // the copy in room 7 burns 14 a minute from the second one on, the thing in room 6 burns 5
        due.is("the lesser room", x.shut(2, 0), 0);
        due.is("the other room", x.shut(2, 1), 7);
        due.is("5 and 5, and 5 of the thing", x.shut(2, 2), 15);
        x.door(0, 7, 1);
        due.is("of one open door that one", x.shut(2, 1), 6);
        due.is("5 and 5 alone", x.shut(2, 2), 10);
        x.door(0, 6, 0);
        due.is("of no open door none", x.shut(2, 2), NONE);
    }

    @Sentence(of = "Terms 3", says = "of several the one with the least lesser ROOM, then with the least other one.")
    static void theLeastOfSeveralDoors(Due due) {
        CopiedFire x = Twins.still();
        x.door(6, 7, 2);
        due.is("the last door", x.shut(60, 0) * 10 + x.shut(60, 1), 67);
        x.door(7, 1, 2);
        due.is("the lesser room counts first", x.shut(60, 0) * 10 + x.shut(60, 1), 17);
        x.door(6, 1, 2);
        due.is("then the other", x.shut(60, 0) * 10 + x.shut(60, 1), 16);
        x.door(7, 0, 2);
        due.is("the least lesser room with the greatest other", x.shut(60, 0) * 10 + x.shut(60, 1), 7);
        x.door(1, 0, 2);
        due.is("the first door", x.shut(60, 0) * 10 + x.shut(60, 1), 1);
    }

    /** A fire by lot in which doors matter; the same lot gives the same fire. */
    private static CopiedFire lot(int lot) {
        CopiedFire x = new CopiedFire();
        x.seed(lot * 7919);
        x.deal(12);
        for (int room = 0; room < 8; room++) {
            x.door(room, (room + 1) % 8, 1 + room % 2);
            x.heats(room, room * lot % 40);
        }
        x.rule(1, 1);
        return x;
    }

    private static int burntWith(int lot, int wind) {
        CopiedFire x = lot(lot);
        x.rule(0, wind);
        x.minutes(60);
        return x.house(0);
    }

    private static int firstMost(IntUnaryOperator burnt, int step) {
        int best = 0;
        int most = burnt.applyAsInt(0);
        for (int wind = step; wind <= 100; wind += step) {
            int now = burnt.applyAsInt(wind);
            best = now > most ? wind : best;
            most = Math.max(now, most);
        }
        return best;
    }

    private static void hiredIs(Due due, String of, IntPredicate wanted) {
        for (int lot = 0; lot < 2000; lot++) {
            if (wanted.test(lot)) {
                int by = lot;
                int best = firstMost(wind -> burntWith(by, wind), 10);
                due.is(of + ": the wind", lot(lot).hired(60, 0), best);
                due.is(of + ": burnt", lot(lot).hired(60, 1), burntWith(lot, best));
                return;
            }
        }
        due.holds(of + ": there is such a fire", false);
    }

    @Sentence(of = "Terms 3", says = "HIRED for n: the WIND, of 0, 10, .. 100, with which BURNT is most behind n MINUTES;")
    static void theWindToHire(Due due) {
        hiredIs(due, "100", lot -> firstMost(wind -> burntWith(lot, wind), 10) == 100);
        hiredIs(due, "90", lot -> firstMost(wind -> burntWith(lot, wind), 10) == 90);
        hiredIs(due, "10", lot -> firstMost(wind -> burntWith(lot, wind), 10) == 10);
        hiredIs(due, "0", lot -> burntWith(lot, 0) > burntWith(lot, 10) && firstMost(w -> burntWith(lot, w), 10) == 0);
        hiredIs(due, "one between them is no choice", lot -> firstMost(wind -> burntWith(lot, wind), 5) % 10 != 0);
    }

    @Sentence(of = "Terms 3", says = "with which BURNT is most behind n MINUTES; of several the least.")
    static void theLeastOfSeveralWinds(Due due) {
        CopiedFire x = new CopiedFire();
        x.rule(0, 100);
        due.is("nothing burns by any", x.hired(60, 0), 0);
        due.is("burnt", x.hired(60, 1), 0);
        x.thing(0, 0, 99, 1);
        due.is("it burns by any", x.hired(60, 0), 0);
        due.is("all of it", x.hired(60, 1), 99);
    }

    @Sentence(of = "Terms 3", says = "BECOMES of a THING, for n: the KIND as one of which BURNT is least behind n MINUTES;")
    static void theKindToBecome(Due due) {
        CopiedFire x = Twins.still();
        x.thing(3, 0, 99, 1);
        due.is("a blank", x.becomes(0, 60, 0), 5);
        due.is("burns nothing", x.becomes(0, 60, 1), 0);
        due.is("it is not one", x.told(0, 0), 3);
        CopiedFire y = Twins.still();
        y.thing(0, 0, 50, 1);
        y.thing(4, 0, 99, 1);
        due.is("burnt by others counts", y.becomes(1, 60, 1), 50);
    }

    @Sentence(of = "Terms 3", says = "the KIND as one of which BURNT is least behind n MINUTES; of several the least.")
    static void theLeastOfSeveralKinds(Due due) {
        CopiedFire x = Twins.still();
        x.thing(5, 0, 99, 1);
        String[] laws = {"burn 4", "burn 3", "burn 2", "burn 1", "burn 0"};
        int[] want = {5, 4, 4, 2, 0};
        for (int i = 0; i < laws.length; i++) {
            Due.text(x, laws[i]);
            due.is(laws[i], x.becomes(0, 60, 0), want[i]);
        }
        x.set(0, 2, 0);
        due.is("without fuel", x.becomes(0, 1, 0), 0);
    }

    @Sentence(of = "Terms 3", says = "LIKE by a SHEET: the ROOM of which HEAT behind k MINUTES and places k that are numbers"
        + " (k from 0 on) differ least")
    static void placesOfNumbersAlone(Due due) {
        CopiedFire x = Twins.still();
        x.heats(7, 40);
        x.rule(1, 1);
        int[] places = new int[24];
        Arrays.fill(places, NONE);
        places[23] = 17;
        fill(x, 1, places);
        due.is("the last place alone: 40 less 23", x.like(0, 0), 7);
        due.is("no difference", x.like(0, 1), 0);
        places[0] = 40;
        fill(x, 1, places);
        due.is("place 0 is now", x.like(0, 1), 0);
        places[23] = NONE;
        places[0] = NONE;
        fill(x, 1, places);
        due.is("no numbers at all: the room", x.like(0, 0), 0);
        due.is("no numbers at all: the differences", x.like(0, 1), 0);
        fill(x, 1);
        due.is("no places: the room", x.like(0, 0), 0);
        due.is("no places: the differences", x.like(0, 1), 0);
    }

    @Sentence(of = "Terms 3", says = "differ least (signs left out), together;")
    static void signsAreLeftOut(Due due) {
        CopiedFire x = Twins.still();
        for (int room = 0; room < 8; room++) {
            x.heats(room, 99);
        }
        int[] places = new int[24];
        Arrays.fill(places, -99999);
        fill(x, 1, places);
        due.is("the most there can be", x.like(0, 1), 24 * 100098);
        Arrays.fill(places, 99999);
        fill(x, 1, places);
        due.is("the same above", x.like(0, 1), 24 * 99900);
        fill(x, 0, 89, 109);
        due.is("10 and 10 are 20, not 0", x.like(0, 1), 20);
        fill(x, 0, -32768);
        due.is("the least short", x.like(0, 1), 32867);
    }

    @Sentence(of = "Terms 3", says = "differ least (signs left out), together; of several the least.")
    static void theLeastOfSeveralRooms(Due due) {
        CopiedFire x = Twins.still();
        fill(x, 0, 50);
        due.is("all the same", x.like(0, 0), 0);
        for (int room = 0; room < 8; room++) {
            x.heats(room, 1);
            due.is("one alone", x.like(0, 0), room);
            x.heats(room, 0);
        }
        x.heats(7, 1);
        due.is("the last is nearest", x.like(0, 0), 7);
        x.heats(6, 99);
        due.is("49 on both sides", x.like(0, 0), 6);
    }
}
