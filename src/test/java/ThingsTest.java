/** Promises 1 to 8: a new object, thing, told, as, turns, set, deal, seed. */
public final class ThingsTest {
    private static final int BAD = CopiedFire.BAD;
    private static final int FULL = CopiedFire.FULL;
    private static final int KIND = CopiedFire.KIND;
    private static final Due due = new Due("ThingsTest");

    public static void main(String[] args) {
        aNewObject();
        thingIsAdded();
        thingIsRefused();
        toldByKind();
        toldByLaw();
        asAKind();
        turnsIntoAKind();
        setsRoomFuelLit();
        dealsByLot();
        seeds();
        due.end();
    }

    private static void aNewObject() {
        CopiedFire x = new CopiedFire();
        int[] counts = {0, 0, 20, 2, 0, 0, 0, 0, 1};
        for (int what = 0; what < counts.length; what++) {
            due.is("new: count(" + what + ")", x.count(what), counts[what]);
        }
        for (int what = 0; what <= 5; what++) {
            due.is("new: house(" + what + ")", x.house(what), 0);
        }
        for (int room = 0; room < 8; room++) {
            due.is("new: heat(" + room + ")", x.heat(room), 0);
            for (int other = 0; other < 8; other++) {
                due.is("new: doorTold(" + room + ", " + other + ")", x.doorTold(room, other), room == other ? BAD : 0);
            }
        }
        for (int sheet = 0; sheet < 4; sheet++) {
            due.is("new: reads(" + sheet + ")", x.reads(sheet), CopiedFire.NOTHING);
        }
        for (int slot = 0; slot < 5; slot++) {
            due.is("new: rest(" + slot + ", 1)", x.rest(slot, 1), CopiedFire.NOTHING);
        }
        for (int key = 0; key < 3; key++) {
            due.is("new: why(" + key + ")", x.why(key), CopiedFire.NONE);
        }
        due.is("new: told(0, 0)", x.told(0, 0), BAD);
        due.is("new: likes(0, 0)", x.likes(0, 0), BAD);
        due.is("new: back()", x.back(), CopiedFire.NO);
        due.is("new: fee()", x.fee(), 0);
    }

    private static void thingIsAdded() {
        CopiedFire x = new CopiedFire();
        for (int i = 0; i < 12; i++) {
            due.is("thing " + i, x.thing(i % 6, i % 8, 99 - i, i % 2), i);
        }
        for (int i = 0; i < 12; i++) {
            due.is("kind of " + i, x.told(i, 0), i % 6);
            due.is("room of " + i, x.told(i, 1), i % 8);
            due.is("fuel of " + i, x.told(i, 2), 99 - i);
            due.is("lit of " + i, x.told(i, 3), i % 2);
        }
        due.is("the thirteenth", x.thing(0, 0, 0, 0), FULL);
        due.is("the thirteenth, and bad", x.thing(0, 0, 0, 2), BAD);
        due.is("still twelve", x.count(0), 12);
    }

    private static void thingIsRefused() {
        CopiedFire x = new CopiedFire();
        int[][] wrong = {
            {-1, 0, 0, 0}, {6, 0, 0, 0}, {0, -1, 0, 0}, {0, 8, 0, 0}, {0, 0, -1, 0}, {0, 0, 100, 0}, {0, 0, 0, -1},
            {0, 0, 0, 2}, {Integer.MIN_VALUE, 0, 0, 0}, {0, Integer.MAX_VALUE, 0, 0}
        };
        for (int[] w : wrong) {
            due.is("wrong thing", x.thing(w[0], w[1], w[2], w[3]), BAD);
        }
        due.is("none came", x.count(0), 0);
        due.is("the least", x.thing(0, 0, 0, 0), 0);
        due.is("the most", x.thing(5, 7, 99, 1), 1);
    }

    private static void toldByKind() {
        // by kinds: burns, gives of that, catches from, worth with fuel 40
        int[][] want = {{5, 5, 20, 40}, {7, 10, 12, 44}, {2, 1, 35, 80}, {14, 17, 6, 88}, {1, 0, 70, 74}, {0, 0, 100, 3}};
        CopiedFire x = new CopiedFire();
        for (int kind = 0; kind < 6; kind++) {
            x.thing(kind, 0, 40, 0);
            for (int k = 0; k < 4; k++) {
                due.is("told(" + kind + ", " + (4 + k) + ")", x.told(kind, 4 + k), want[kind][k]);
            }
        }
        due.is("less fuel than it burns", x.set(3, 2, 1), 40);
        due.is("burns as before", x.told(3, 4), 14);
        due.is("gives of that", x.told(3, 5), 17);
        due.is("told(-1, 0)", x.told(-1, 0), BAD);
        due.is("told(6, 0)", x.told(6, 0), BAD);
        due.is("told(0, -1)", x.told(0, -1), BAD);
        due.is("told(0, 8)", x.told(0, 8), BAD);
    }

    private static void toldByLaw() {
        // plain burn 1, 11, and held at 0 and 99
        String[] laws = {"burn 1", "burn 11", "burn 0-7", "burn 9999"};
        int[][] burns = {{1, 3, 0, 6, 0, 0}, {11, 13, 5, 26, 4, 0}, {0, 2, 0, 4, 0, 0}, {99, 101, 49, 202, 48, 0}};
        int[][] gives = {{1, 6, 0, 9, 0, 0}, {11, 16, 2, 29, 2, 0}, {0, 5, 0, 7, 0, 0}, {99, 104, 24, 205, 24, 0}};
        CopiedFire x = new CopiedFire();
        for (int kind = 0; kind < 6; kind++) {
            x.thing(kind, kind, 50, 0);
        }
        for (int law = 0; law < laws.length; law++) {
            due.is(laws[law], Due.text(x, laws[law]), law);
            for (int kind = 0; kind < 6; kind++) {
                due.is(laws[law] + ": told(" + kind + ", 4)", x.told(kind, 4), burns[law][kind]);
                due.is(laws[law] + ": told(" + kind + ", 5)", x.told(kind, 5), gives[law][kind]);
            }
        }
        x.minutes(3);
        x.heats(0, 31);
        due.is("names", Due.text(x, "burn f+n*h/3"), 4);
        due.is("fuel and minutes by heat", x.told(0, 4), 81);
    }

    private static void asAKind() {
        boolean[][] isOf = {
            {true, false, false, false, false, false}, {true, true, false, false, false, false},
            {true, false, true, false, false, false}, {true, true, false, true, false, false},
            {true, false, true, false, true, false}, {true, false, false, false, false, true}
        };
        CopiedFire x = new CopiedFire();
        for (int kind = 0; kind < 6; kind++) {
            x.thing(kind, 0, 10 + kind, 0);
            for (int asked = 0; asked < 6; asked++) {
                due.is("as(" + kind + ", " + asked + ")", x.as(kind, asked), isOf[kind][asked] ? 10 + kind : KIND);
            }
        }
        due.is("as(-1, 0)", x.as(-1, 0), BAD);
        due.is("as(6, 0)", x.as(6, 0), BAD);
        due.is("as(0, -1)", x.as(0, -1), BAD);
        due.is("as(0, 6)", x.as(0, 6), BAD);
    }

    private static void turnsIntoAKind() {
        CopiedFire x = new CopiedFire();
        x.thing(2, 3, 30, 1);
        due.is("turns(0, 3)", x.turns(0, 3), 2);
        due.is("it is a copy", x.told(0, 0), 3);
        due.is("it burns as one", x.told(0, 4), 14);
        due.is("its fuel stays", x.told(0, 2), 30);
        due.is("its room stays", x.told(0, 1), 3);
        due.is("it is still lit", x.told(0, 3), 1);
        due.is("turns(0, 3) again", x.turns(0, 3), 3);
        due.is("turns(0, 5)", x.turns(0, 5), 3);
        due.is("turns(0, 0)", x.turns(0, 0), 5);
        due.is("turns(0, 6)", x.turns(0, 6), BAD);
        due.is("turns(0, -1)", x.turns(0, -1), BAD);
        due.is("turns(1, 0)", x.turns(1, 0), BAD);
        due.is("turns(-1, 0)", x.turns(-1, 0), BAD);
        due.is("as it was", x.told(0, 0), 0);
    }

    private static void setsRoomFuelLit() {
        CopiedFire x = new CopiedFire();
        x.thing(0, 1, 2, 1);
        due.is("set(0, 1, 7)", x.set(0, 1, 7), 1);
        due.is("set(0, 2, 99)", x.set(0, 2, 99), 2);
        due.is("set(0, 3, 0)", x.set(0, 3, 0), 1);
        int[][] wrong = {
            {0, 0, 0}, {0, 4, 0}, {0, -1, 0}, {1, 1, 0}, {-1, 1, 0}, {0, 1, 8}, {0, 1, -1}, {0, 2, 100}, {0, 2, -1},
            {0, 3, 2}, {0, 3, -1}
        };
        for (int[] w : wrong) {
            due.is("set(" + w[0] + ", " + w[1] + ", " + w[2] + ")", x.set(w[0], w[1], w[2]), BAD);
        }
        due.is("kind", x.told(0, 0), 0);
        due.is("room", x.told(0, 1), 7);
        due.is("fuel", x.told(0, 2), 99);
        due.is("lit", x.told(0, 3), 0);
        due.is("set(0, 1, 0)", x.set(0, 1, 0), 7);
        due.is("set(0, 2, 0)", x.set(0, 2, 0), 99);
        due.is("set(0, 3, 1)", x.set(0, 3, 1), 0);
    }

    private static void dealsByLot() {
        CopiedFire x = new CopiedFire();
        due.is("deal(0)", x.deal(0), BAD);
        due.is("deal(13)", x.deal(13), BAD);
        due.is("deal(-1)", x.deal(-1), BAD);
        due.is("no draw", x.count(8), 1);
        x.seed(-77);
        x.thing(0, 0, 0, 0);
        due.is("deal(9)", x.deal(9), 9);
        int z = isDrawn(x, 1, 10, -77);
        due.is("z behind nine", x.count(8), z);
        due.is("deal(12) with room for two", x.deal(12), 2);
        z = isDrawn(x, 10, 12, z);
        due.is("z behind eleven", x.count(8), z);
        due.is("deal(1) with no room", x.deal(1), 0);
        due.is("no draws for others", x.count(8), z);
        due.is("twelve", x.count(0), 12);
    }

    private static int isDrawn(CopiedFire x, int from, int to, int seed) {
        int z = seed;
        int[] by = {6, 8, 60, 4};
        for (int i = from; i < to; i++) {
            for (int what = 0; what < 4; what++) {
                z = Due.nextZ(z);
                int v = Due.drawn(z, by[what]);
                due.is("drawn: told(" + i + ", " + what + ")", x.told(i, what), what < 3 ? v : v == 0 ? 1 : 0);
            }
        }
        return z;
    }

    private static void seeds() {
        CopiedFire x = new CopiedFire();
        due.is("seed(MIN)", x.seed(Integer.MIN_VALUE), 1);
        due.is("seed(-5)", x.seed(-5), Integer.MIN_VALUE);
        due.is("seed(0)", x.seed(0), -5);
        due.is("z", x.count(8), 0);
        x.minutes(1);
        due.is("z behind a draw", x.count(8), 12345);
    }
}
