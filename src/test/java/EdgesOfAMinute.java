import java.util.function.Predicate;

/** What a MINUTE does, and what a draw gives (Terms 2). */
final class EdgesOfAMinute {
    private static final int[] CATCHES = {20, 12, 35, 6, 70, 100};

    private EdgesOfAMinute() {
    }

    private static CopiedFire oneThing(int kind, int fuel, int lit) {
        CopiedFire x = Twins.still();
        x.thing(kind, 0, fuel, lit);
        return x;
    }

    // ---- (1) things burn

    @Sentence(of = "Terms 2", says = "A MINUTE: (1) THINGS by numbers, each that is LIT:")
    static void thingsBurnByNumbers(Due due) {
        CopiedFire x = Twins.still();
        Due.text(x, "burn h+1");
        x.thing(2, 0, 9, 1);
        x.thing(0, 0, 9, 1);
        x.thing(0, 0, 9, 0);
        due.is("the damp one first burns half of 1, then the thing 1", x.minutes(1), 1);
        CopiedFire y = Twins.still();
        Due.text(y, "burn h+1");
        y.thing(0, 0, 9, 1);
        y.thing(2, 0, 9, 1);
        due.is("the thing first burns 1, then the damp one half of 2", y.minutes(1), 2);
        due.is("none is there", new CopiedFire().minutes(100), 0);
    }

    @Sentence(of = "Terms 2", says = "of its FUEL it burns as much as it BURNS, or all: FUEL is less, BURNT more by that,")
    static void asMuchOrAll(Due due) {
        int[] fuels = {0, 1, 4, 5, 6, 99};
        int[] burnt = {0, 1, 4, 5, 5, 5};
        for (int i = 0; i < fuels.length; i++) {
            CopiedFire x = oneThing(0, fuels[i], 1);
            due.is("fuel " + fuels[i], x.minutes(1), burnt[i]);
            due.is("burnt", x.house(0), burnt[i]);
            due.is("what is left", x.told(0, 2), fuels[i] - burnt[i]);
        }
    }

    @Sentence(of = "Terms 2", says = "HEAT of its ROOM more by what it GIVES of that (99 at most).")
    static void heatIs99AtMost(Due due) {
        int[] before = {0, 93, 94, 95, 99};
        int[] behind = {5, 98, 99, 99, 99};
        for (int i = 0; i < before.length; i++) {
            CopiedFire x = oneThing(0, 50, 1);
            x.heats(0, before[i]);
            x.minutes(1);
            due.is("heat " + before[i] + " and 5", x.heat(0), behind[i]);
        }
        CopiedFire x = oneThing(3, 50, 1);
        x.heats(0, 98);
        x.door(0, 1, 2);
        x.minutes(1);
        due.is("a quarter of 99 goes over, not of 115", x.heat(1), 24);
        due.is("99 less that", x.heat(0), 75);
    }

    @Sentence(of = "Terms 2", says = "HEAT of its ROOM more by what it GIVES of that")
    static void givesOfWhatIsLeft(Due due) {
        CopiedFire x = oneThing(3, 2, 1);
        x.minutes(1);
        due.is("a copy that burns its last 2", x.heat(0), 5);
        CopiedFire y = oneThing(2, 1, 1);
        y.minutes(1);
        due.is("a damp one that burns its last 1", y.heat(0), 0);
    }

    @Sentence(of = "Terms 2", says = "Has it no FUEL then, it is LIT no more, ASHES is 1 more.")
    static void outWithoutFuel(Due due) {
        int[] fuels = {0, 4, 5, 6};
        for (int fuel : fuels) {
            CopiedFire x = oneThing(0, fuel, 1);
            x.minutes(1);
            due.is("fuel " + fuel + ": lit", x.told(0, 3), fuel > 5 ? 1 : 0);
            due.is("fuel " + fuel + ": ashes", x.house(1), fuel > 5 ? 0 : 1);
            x.minutes(9);
            due.is("fuel " + fuel + ": ashes once alone", x.house(1), 1);
        }
        CopiedFire unlit = oneThing(0, 0, 0);
        unlit.minutes(1);
        due.is("what is not lit and has no fuel is no ashes", unlit.house(1), 0);
        CopiedFire blank = oneThing(5, 1, 1);
        blank.minutes(100);
        due.is("a blank burns nothing and stays lit", blank.told(0, 3), 1);
    }

    // ---- (2) heat goes over

    private static CopiedFire chain(int[][] doors, int hot, int heat) {
        CopiedFire x = Twins.still();
        for (int[] d : doors) {
            x.door(d[0], d[1], 2);
        }
        x.heats(hot, heat);
        x.minutes(1);
        return x;
    }

    @Sentence(of = "Terms 2", says = "(2) Each two ROOMS (the lesser one first, by numbers; then the other one, by numbers)")
    static void lesserRoomsFirst(Due due) {
        int[][] row = {{1, 2}, {0, 1}};
        CopiedFire up = chain(row, 0, 64);
        due.is("0 and 1, then 1 and 2", up.heat(2), 4);
        CopiedFire down = chain(row, 2, 64);
        due.is("0 and 1 before 1 has any", down.heat(0), 0);
        int[][] star = {{0, 7}, {0, 6}, {5, 0}};
        CopiedFire out = chain(star, 0, 64);
        due.is("5 first", out.heat(5), 16);
        due.is("then 6", out.heat(6), 12);
        due.is("then 7", out.heat(7), 9);
        int[][] last = {{7, 6}, {5, 7}};
        CopiedFire in = chain(last, 7, 64);
        due.is("5 and 7 first", in.heat(5), 16);
        due.is("then 6 and 7, the last two", in.heat(6), 12);
    }

    @Sentence(of = "Terms 2", says = "(2) Each two ROOMS")
    static void whatBurnsNowGoesOverNow(Due due) {
        CopiedFire x = oneThing(0, 50, 1);
        x.door(0, 1, 2);
        x.minutes(1);
        due.is("a quarter of the 5 that it gave", x.heat(1), 1);
        due.is("the rest stays", x.heat(0), 4);
    }

    @Sentence(of = "Terms 2", says = "with an open DOOR:")
    static void noHeatThroughOthers(Due due) {
        for (int door = 0; door <= 2; door++) {
            CopiedFire x = Twins.still();
            x.door(0, 7, door);
            x.heats(0, 40);
            x.minutes(1);
            due.is("door " + door, x.heat(7), door == 2 ? 10 : 0);
        }
    }

    @Sentence(of = "Terms 2",
        says = "a quarter (cut) of by how much HEAT of the one is more than that of the other goes over to that one.")
    static void aQuarterIsCut(Due due) {
        int[] more = {0, 1, 3, 4, 5, 7, 8, 99};
        int[] over = {0, 0, 0, 1, 1, 1, 2, 24};
        for (int i = 0; i < more.length; i++) {
            CopiedFire up = chain(new int[][] {{2, 3}}, 2, more[i]);
            due.is(more[i] + " more: left in the lesser", up.heat(2), more[i] - over[i]);
            due.is(more[i] + " more: in the other", up.heat(3), over[i]);
            CopiedFire down = chain(new int[][] {{2, 3}}, 3, more[i]);
            due.is(more[i] + " more: left in the other", down.heat(3), more[i] - over[i]);
            due.is(more[i] + " more: in the lesser", down.heat(2), over[i]);
        }
    }

    // ---- (3) rooms cool

    @Sentence(of = "Terms 2", says = "(3) HEAT of each ROOM is less by COOL (0 at least).")
    static void noColderThan0(Due due) {
        int[] cools = {0, 1, 9};
        for (int cool : cools) {
            for (int heat = Math.max(0, cool - 1); heat <= cool + 1; heat++) {
                CopiedFire x = Twins.still();
                x.rule(1, cool);
                x.heats(0, heat);
                x.heats(7, heat);
                x.minutes(1);
                due.is("room 0: " + heat + " by " + cool, x.heat(0), Math.max(0, heat - cool));
                due.is("room 7: " + heat + " by " + cool, x.heat(7), Math.max(0, heat - cool));
            }
        }
        CopiedFire x = Twins.still();
        x.rule(1, 1);
        x.door(0, 1, 2);
        x.heats(0, 4);
        x.minutes(1);
        due.is("behind what goes over: 3 less 1, not 4 less 1", x.heat(0), 2);
    }

    // ---- (4) things catch

    @Sentence(of = "Terms 2", says = "it is LIT, if HEAT of its ROOM is what it CATCHES from, or more.")
    static void catchesFromThatHeatOn(Due due) {
        for (int kind = 0; kind <= 5; kind++) {
            for (int heat = CATCHES[kind] - 1; heat <= Math.min(99, CATCHES[kind] + 1); heat++) {
                CopiedFire x = oneThing(kind, 1, 0);
                x.heats(0, heat);
                x.minutes(1);
                due.is("kind " + kind + " by heat " + heat, x.told(0, 3), heat >= CATCHES[kind] ? 1 : 0);
            }
        }
        CopiedFire x = oneThing(0, 1, 0);
        x.rule(1, 1);
        x.heats(0, 20);
        x.minutes(1);
        due.is("20 that has cooled is 19", x.told(0, 3), 0);
    }

    @Sentence(of = "Terms 2", says = "(4) THINGS by numbers, each that is not LIT and has FUEL:")
    static void catchesWithFuelAlone(Due due) {
        CopiedFire x = Twins.still();
        x.heats(0, 99);
        x.thing(0, 0, 0, 0);
        x.thing(0, 0, 1, 0);
        x.thing(0, 0, 5, 1);
        due.is("the third burns", x.minutes(1), 5);
        due.is("the second alone is lit", x.house(3), 0b010);
        due.is("it burns from the next minute on", x.minutes(1), 1);
        due.is("and none is lit", x.house(3), 0);
    }

    // ---- (5) wind

    /** What the draws behind a seed give, by numbers so wide that nothing wraps unseen. */
    private static int[] draws(int seed, int many) {
        int[] given = new int[many];
        long z = seed & 0xffffffffL;
        for (int i = 0; i < many; i++) {
            z = z * 1103515245L + 12345L & 0xffffffffL;
            given[i] = (int) (z >> 8);
        }
        return given;
    }

    private static int zBehind(int seed, int many) {
        long z = seed & 0xffffffffL;
        for (int i = 0; i < many; i++) {
            z = z * 1103515245L + 12345L & 0xffffffffL;
        }
        return (int) z;
    }

    private static int seedWith(Predicate<int[]> wanted) {
        for (int seed = 0; seed < 1000000; seed++) {
            if (wanted.test(draws(seed, 4))) {
                return seed;
            }
        }
        throw new IllegalStateException("no such seed");
    }

    private static CopiedFire windy(int wind, int seed) {
        CopiedFire x = Twins.still();
        x.rule(0, wind);
        x.seed(seed);
        return x;
    }

    @Sentence(of = "Terms 2", says = "(5) A draw; if its rest by 100 is below WIND, two more:")
    static void restsAtAndBelowTheWind(Due due) {
        // a rest, the wind, and how many draws
        int[][] rows = {{0, 0, 1}, {0, 1, 3}, {1, 1, 1}, {19, 20, 3}, {20, 20, 1}, {98, 99, 3}, {99, 99, 1}, {99, 100, 3}};
        for (int[] row : rows) {
            int seed = seedWith(d -> d[0] % 100 == row[0]);
            CopiedFire x = windy(row[1], seed);
            x.minutes(1);
            due.is("rest " + row[0] + ", wind " + row[1], x.count(8), zBehind(seed, row[2]));
        }
    }

    @Sentence(of = "Terms 2", says = "ROOMS that are their rests by 8:")
    static void theFirstAndTheLastRoomAreDrawn(Due due) {
        int[][] rooms = {{0, 7}, {7, 0}, {0, 1}, {7, 6}};
        for (int[] two : rooms) {
            int seed = seedWith(d -> d[1] % 8 == two[0] && d[2] % 8 == two[1]);
            CopiedFire x = windy(100, seed);
            for (int one = 0; one < 8; one++) {
                for (int other = one + 1; other < 8; other++) {
                    x.door(one, other, 1);
                }
            }
            x.minutes(1);
            due.is("between " + two[0] + " and " + two[1], x.doorTold(two[0], two[1]), 2);
            x.door(two[0], two[1], 1);
            due.is("no other one is open", x.shut(1, 0), CopiedFire.NONE);
        }
    }

    @Sentence(of = "Terms 2", says = "if there is a DOOR between them (and they are two),")
    static void noDoorAndOneRoom(Due due) {
        int two = seedWith(d -> d[1] % 8 == 3 && d[2] % 8 == 5);
        CopiedFire x = windy(100, two);
        x.minutes(1);
        due.is("there is no door", x.doorTold(3, 5), 0);
        due.is("none slams", x.house(2), 0);
        for (int room = 0; room < 8; room += 7) {
            int drawn = room;
            CopiedFire y = windy(100, seedWith(d -> d[1] % 8 == drawn && d[2] % 8 == drawn));
            for (int other = 0; other < 8; other++) {
                y.door(room, other, 2);
            }
            y.minutes(1);
            due.is("one room twice: none slams", y.house(2), 0);
            for (int other = 0; other < 8; other++) {
                due.is("one room twice: its doors", y.doorTold(room, other), other == room ? CopiedFire.BAD : 2);
            }
        }
    }

    @Sentence(of = "Terms 2", says = "it is open if it was shut, and the other way round (SLAMS 1 more).")
    static void bothWaysRound(Due due) {
        int seed = seedWith(d -> d[1] % 8 == 4 && d[2] % 8 == 2);
        for (int door = 1; door <= 2; door++) {
            CopiedFire x = windy(100, seed);
            x.door(2, 4, door);
            x.heats(2, 40);
            x.minutes(1);
            due.is("the door that was " + door, x.doorTold(2, 4), 3 - door);
            due.is("slams", x.house(2), 1);
            due.is("heat went by the door as it was", x.heat(4), door == 2 ? 10 : 0);
        }
    }

    @Sentence(of = "Terms 2", says = "THE MINUTE is 1 more.")
    static void oneMinuteMore(Due due) {
        CopiedFire x = oneThing(0, 50, 1);
        Due.text(x, "burn n+1");
        due.is("while it burns it is still the minute before", x.minutes(1), 1);
        due.is("then one more", x.count(1), 1);
        due.is("and one more again", x.minutes(1), 2);
    }

    // ---- draws

    @Sentence(of = "Terms 2", says = "z is told (1 at first).")
    static void zIs1AtFirst(Due due) {
        due.is("at first", new CopiedFire().count(8), 1);
        due.is("seed tells it too", new CopiedFire().seed(0), 1);
    }

    @Sentence(of = "Terms 2", says = "A draw: z becomes z * 1103515245 + 12345 (an int);")
    static void zWraps(Due due) {
        // 1103515245 + 12345; 0 + 12345; 12345 less 1103515245; 2147483647 and -2147483648 times it wrap
        int[][] rows = {
            {1, 1103527590}, {0, 12345}, {-1, -1103502900}, {Integer.MAX_VALUE, 1043980748}, {Integer.MIN_VALUE, -2147471303},
            {2, -2087924461}
        };
        for (int[] row : rows) {
            CopiedFire x = windy(0, row[0]);
            x.minutes(1);
            due.is("behind " + row[0], x.count(8), row[1]);
        }
    }

    @Sentence(of = "Terms 2", says = "it gives z >>> 8.")
    static void aDrawIsNeverBelow0(Due due) {
        // z becomes -1103502900, which gives 3191464396 >> 8 = 12466657: by 6 it is 1
        CopiedFire x = windy(0, -1);
        x.deal(1);
        due.is("the kind, by a z below 0", x.told(0, 0), 1);
        // z becomes 12345, which gives 48: by 6 it is 0
        CopiedFire y = windy(0, 0);
        y.deal(1);
        due.is("the kind, by a small z", y.told(0, 0), 0);
    }

    @Sentence(of = "Terms 2", says = "THINGS that are drawn: KIND the rest of a draw by 6, ROOM that of one more by 8,"
        + " FUEL that of one more by 60, LIT 1, if that of one more by 4 is 0, else 0.")
    static void theLeastAndTheMostThatIsDrawn(Due due) {
        int[] by = {6, 8, 60, 4};
        for (int what = 0; what < 4; what++) {
            for (int rest = 0; rest < by[what]; rest++) {
                int drawn = what;
                int wanted = rest;
                int seed = seedWith(d -> d[drawn] % by[drawn] == wanted);
                CopiedFire x = windy(0, seed);
                due.is("one is drawn", x.deal(1), 1);
                int want = what < 3 ? rest : rest == 0 ? 1 : 0;
                due.is("told(0, " + what + ") of rest " + rest, x.told(0, what), want);
                due.is("by four draws", x.count(8), zBehind(seed, 4));
            }
        }
    }
}
