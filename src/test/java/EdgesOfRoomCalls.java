/** Promises 9 to 17: heat, heats, door, doorTold, rule, visitor, likes, seats, way. */
final class EdgesOfRoomCalls {
    private static final int BAD = CopiedFire.BAD;
    private static final int FULL = CopiedFire.FULL;
    private static final int NONE = CopiedFire.NONE;
    private static final int LOW = Integer.MIN_VALUE;
    private static final int BIG = Integer.MAX_VALUE;

    private EdgesOfRoomCalls() {
    }

    private static void allBad(Due due, String name, int[][] wrong) {
        for (int[] args : wrong) {
            Twins.refused(due, BAD, name, args);
        }
    }

    // ---- 9 heat, 10 heats

    @Sentence(of = "Promise 9", says = "HEAT of a ROOM.")
    static void heatOfTheFirstAndTheLast(Due due) {
        CopiedFire x = new CopiedFire();
        x.heats(0, 99);
        x.heats(7, 1);
        due.is("room 0", x.heat(0), 99);
        due.is("room 7", x.heat(7), 1);
        due.is("the rooms beside them", x.heat(1) + x.heat(6), 0);
    }

    @Sentence(of = "Promise 9", says = "BAD.")
    static void heatIsBad(Due due) {
        allBad(due, "heat", new int[][] {{-1}, {8}, {LOW}, {BIG}});
    }

    @Sentence(of = "Promise 10", says = "HEAT of a ROOM becomes v: what it was.")
    static void heatsOfTheFirstAndTheLast(Due due) {
        CopiedFire x = new CopiedFire();
        for (int room = 0; room < 8; room += 7) {
            due.is("to the greatest", x.heats(room, 99), 0);
            due.is("to one less", x.heats(room, 98), 99);
            due.is("to the least", x.heats(room, 0), 98);
            due.is("to one more", x.heats(room, 1), 0);
            due.is("what it is", x.heat(room), 1);
        }
    }

    @Sentence(of = "Promise 10", says = "BAD.")
    static void heatsIsBad(Due due) {
        allBad(due, "heats", new int[][] {{-1, 0}, {8, 0}, {LOW, 0}, {BIG, 0}, {0, -1}, {0, 100}, {7, LOW}, {7, BIG}});
    }

    // ---- 11 door, 12 doorTold

    @Sentence(of = "Promise 11", says = "The DOOR between two ROOMS becomes v (0 .. 2): what it was.")
    static void doorsOfTheFirstAndTheLast(Due due) {
        CopiedFire x = new CopiedFire();
        due.is("open", x.door(0, 7, 2), 0);
        due.is("shut, from the other side", x.door(7, 0, 1), 2);
        due.is("none", x.door(0, 7, 0), 1);
        due.is("none it was", x.door(7, 0, 2), 0);
        due.is("the doors beside it", x.doorTold(0, 6) + x.doorTold(1, 7), 0);
    }

    @Sentence(of = "Promise 11", says = "BAD: also one and the same.")
    static void doorIsBad(Due due) {
        allBad(due, "door", new int[][] {
            {0, 0, 1}, {7, 7, 2}, {3, 3, 0}, {-1, 0, 0}, {8, 0, 0}, {0, -1, 0}, {0, 8, 0}, {8, 8, 0}, {-1, -1, 0},
            {0, 1, -1}, {0, 1, 3}, {0, 1, BIG}, {LOW, 1, 0}
        });
    }

    @Sentence(of = "Promise 12", says = "The DOOR between two ROOMS.")
    static void doorsToldFromBothSides(Due due) {
        CopiedFire x = new CopiedFire();
        for (int v = 0; v <= 2; v++) {
            x.door(7, 0, v);
            due.is("from 0", x.doorTold(0, 7), v);
            due.is("from 7", x.doorTold(7, 0), v);
        }
    }

    @Sentence(of = "Promise 12", says = "BAD: also one and the same.")
    static void doorToldIsBad(Due due) {
        allBad(due, "doorTold", new int[][] {{0, 0}, {7, 7}, {-1, 0}, {8, 0}, {0, -1}, {0, 8}, {8, 8}, {LOW, BIG}});
    }

    // ---- 13 rule

    @Sentence(of = "Promise 13", says = "WIND, COOL (what 0, 1) becomes v: what it was.")
    static void rulesOfTheLeastAndTheGreatest(Due due) {
        int[] most = {100, 9};
        int[] first = {20, 2};
        CopiedFire x = new CopiedFire();
        for (int what = 0; what <= 1; what++) {
            due.is("to the greatest", x.rule(what, most[what]), first[what]);
            due.is("to the least", x.rule(what, 0), most[what]);
            due.is("to one more", x.rule(what, 1), 0);
            due.is("what it is", x.count(2 + what), 1);
        }
    }

    @Sentence(of = "Promise 13", says = "BAD.")
    static void ruleIsBad(Due due) {
        allBad(due, "rule", new int[][] {{-1, 0}, {2, 0}, {LOW, 0}, {0, -1}, {0, 101}, {1, -1}, {1, 10}, {0, BIG}, {1, LOW}});
    }

    // ---- 14 visitor, 15 likes

    @Sentence(of = "Promise 14", says = "One more of the VISITORS: the number.")
    static void visitorsWhoLikeNoneAndAll(Due due) {
        CopiedFire x = new CopiedFire();
        due.is("likes none", x.visitor(0), 0);
        due.is("likes all", x.visitor(255), 1);
        for (int i = 2; i < 6; i++) {
            due.is("the number", x.visitor(1), i);
        }
        due.is("none", x.likes(0, 1), 0);
        due.is("all", x.likes(1, 1), 255);
    }

    @Sentence(of = "Promise 14", says = "BAD: no set of ROOMS;")
    static void visitorIsBad(Due due) {
        allBad(due, "visitor", new int[][] {{-1}, {256}, {257}, {LOW}, {BIG}});
    }

    @Sentence(of = "Promise 14", says = "BAD: no set of ROOMS; FULL.")
    static void aVisitorTooMany(Due due) {
        Twins.refusedWhenFull(due, FULL, "visitor", 0);
        Twins.refusedWhenFull(due, FULL, "visitor", 255);
        Twins.refusedWhenFull(due, BAD, "visitor", 256);
        Twins.refusedWhenFull(due, BAD, "visitor", -1);
    }

    @Sentence(of = "Promise 15", says = "LIKES of a VISITOR become a set: what they were.")
    static void likesOfTheFirstAndTheLast(Due due) {
        CopiedFire x = new CopiedFire();
        for (int i = 0; i < 6; i++) {
            x.visitor(0);
        }
        due.is("to all", x.likes(5, 255), 0);
        due.is("to none", x.likes(5, 0), 255);
        due.is("none they were", x.likes(5, 128), 0);
        due.is("the last one's", x.seats(5), 7);
        due.is("the first one's", x.likes(0, 1), 0);
        due.is("the first one's room", x.seats(0), 0);
    }

    @Sentence(of = "Promise 15", says = "BAD.")
    static void likesIsBad(Due due) {
        allBad(due, "likes", new int[][] {{-1, 0}, {2, 0}, {LOW, 0}, {BIG, 0}, {0, -1}, {0, 256}, {1, LOW}, {1, BIG}});
        Twins.refusedWhenFull(due, BAD, "likes", 6, 0);
    }

    // ---- 16 seats

    @Sentence(of = "Promise 16", says = "SEATS: what -1 how many have one, k the ROOM of VISITOR k (NONE).")
    static void seatsOfNoneAndAll(Due due) {
        CopiedFire x = new CopiedFire();
        due.is("no visitors", x.seats(-1), 0);
        for (int i = 0; i < 6; i++) {
            x.visitor(i == 0 ? 0 : 255);
        }
        due.is("all but the first", x.seats(-1), 5);
        due.is("the first has none", x.seats(0), NONE);
        due.is("the last", x.seats(5), 4);
        Twins.leaves(due, Twins::some, Twins.some().seats(1), "seats", 1);
    }

    @Sentence(of = "Promise 16", says = "BAD.")
    static void seatsIsBad(Due due) {
        allBad(due, "seats", new int[][] {{-2}, {2}, {6}, {LOW}, {BIG}});
        Twins.refusedWhenFull(due, BAD, "seats", 6);
    }

    // ---- 17 way

    @Sentence(of = "Promise 17", says = "WAY from a ROOM to another one (0: the same).")
    static void toTheSameRoom(Due due) {
        CopiedFire x = new CopiedFire();
        for (int room = 0; room < 8; room++) {
            due.is("no doors", x.way(room, room), 0);
        }
        x.door(0, 7, 2);
        due.is("not by the door", x.way(0, 0), 0);
        due.is("by the door", x.way(0, 7), 1);
    }

    @Sentence(of = "Promise 17", says = "BAD;")
    static void wayIsBad(Due due) {
        allBad(due, "way", new int[][] {{-1, 0}, {8, 0}, {0, -1}, {0, 8}, {8, 8}, {-1, -1}, {LOW, LOW}, {BIG, 0}});
    }

    @Sentence(of = "Promise 17", says = "BAD; NONE: there is none.")
    static void noWay(Due due) {
        CopiedFire x = new CopiedFire();
        due.is("no doors", x.way(0, 7), NONE);
        x.door(0, 7, 1);
        due.is("a shut one", x.way(0, 7), NONE);
        x.door(0, 6, 2);
        due.is("an open one to another", x.way(0, 7), NONE);
        due.is("bad first", x.way(8, 7), BAD);
        Twins.refused(due, NONE, "way", 0, 7);
    }
}
