/** Promises 9 to 17: heat, heats, door, doorTold, rule, visitor, likes, seats, way. */
public final class RoomsTest {
    private static final int BAD = CopiedFire.BAD;
    private static final int FULL = CopiedFire.FULL;
    private static final int NONE = CopiedFire.NONE;
    private static final Due due = new Due("RoomsTest");

    public static void main(String[] args) {
        heatOfRooms();
        doorsBetweenRooms();
        rules();
        visitors();
        seatsByHeat();
        seatsInOrder();
        seatsByAllWays();
        ways();
        due.end();
    }

    private static void heatOfRooms() {
        CopiedFire x = new CopiedFire();
        for (int room = 0; room < 8; room++) {
            due.is("heats " + room, x.heats(room, 99 - room), 0);
        }
        for (int room = 0; room < 8; room++) {
            due.is("heat " + room, x.heat(room), 99 - room);
            due.is("heats again " + room, x.heats(room, 0), 99 - room);
        }
        int[][] wrong = {{-1, 0}, {8, 0}, {0, -1}, {0, 100}};
        for (int[] w : wrong) {
            due.is("heats(" + w[0] + ", " + w[1] + ")", x.heats(w[0], w[1]), BAD);
        }
        due.is("heat(-1)", x.heat(-1), BAD);
        due.is("heat(8)", x.heat(8), BAD);
        due.is("heat(0)", x.heat(0), 0);
    }

    private static void doorsBetweenRooms() {
        CopiedFire x = new CopiedFire();
        for (int one = 0; one < 8; one++) {
            for (int other = one + 1; other < 8; other++) {
                due.is("door", x.door(other, one, (one + other) % 3), 0);
            }
        }
        for (int one = 0; one < 8; one++) {
            for (int other = 0; other < 8; other++) {
                int want = one == other ? BAD : (one + other) % 3;
                due.is("doorTold(" + one + ", " + other + ")", x.doorTold(one, other), want);
            }
        }
        due.is("door(0, 2, 1)", x.door(0, 2, 1), 2);
        due.is("door(2, 0, 0)", x.door(2, 0, 0), 1);
        int[][] wrong = {{0, 0, 1}, {7, 7, 0}, {-1, 0, 0}, {0, -1, 0}, {8, 0, 0}, {0, 8, 0}, {0, 1, -1}, {0, 1, 3}};
        for (int[] w : wrong) {
            due.is("door(" + w[0] + ", " + w[1] + ", " + w[2] + ")", x.door(w[0], w[1], w[2]), BAD);
        }
        due.is("doorTold(0, 1)", x.doorTold(0, 1), 1);
        due.is("doorTold(-1, 0)", x.doorTold(-1, 0), BAD);
        due.is("doorTold(0, -1)", x.doorTold(0, -1), BAD);
        due.is("doorTold(8, 0)", x.doorTold(8, 0), BAD);
        due.is("doorTold(0, 8)", x.doorTold(0, 8), BAD);
    }

    private static void rules() {
        CopiedFire x = new CopiedFire();
        due.is("rule(0, 100)", x.rule(0, 100), 20);
        due.is("rule(0, 0)", x.rule(0, 0), 100);
        due.is("rule(1, 9)", x.rule(1, 9), 2);
        due.is("rule(1, 0)", x.rule(1, 0), 9);
        int[][] wrong = {{-1, 0}, {2, 0}, {0, -1}, {0, 101}, {1, -1}, {1, 10}};
        for (int[] w : wrong) {
            due.is("rule(" + w[0] + ", " + w[1] + ")", x.rule(w[0], w[1]), BAD);
        }
        due.is("wind", x.count(2), 0);
        due.is("cool", x.count(3), 0);
    }

    private static void visitors() {
        CopiedFire x = new CopiedFire();
        due.is("visitor(-1)", x.visitor(-1), BAD);
        due.is("visitor(256)", x.visitor(256), BAD);
        for (int i = 0; i < 6; i++) {
            due.is("visitor " + i, x.visitor(255 - i), i);
        }
        due.is("the seventh", x.visitor(0), FULL);
        due.is("the seventh, and bad", x.visitor(256), BAD);
        due.is("six", x.count(4), 6);
        due.is("six in the house", x.house(5), 6);
        for (int i = 0; i < 6; i++) {
            due.is("likes(" + i + ", 0)", x.likes(i, 0), 255 - i);
        }
        due.is("likes(0, 255)", x.likes(0, 255), 0);
        due.is("likes(0, 256)", x.likes(0, 256), BAD);
        due.is("likes(0, -1)", x.likes(0, -1), BAD);
        due.is("likes(6, 0)", x.likes(6, 0), BAD);
        due.is("likes(-1, 0)", x.likes(-1, 0), BAD);
        due.is("as they were", x.likes(0, 0), 255);
    }

    private static void seatsByHeat() {
        CopiedFire x = new CopiedFire();
        due.is("no visitors: seats(-1)", x.seats(-1), 0);
        due.is("no visitors: seats(0)", x.seats(0), BAD);
        x.visitor(0b110);
        x.heats(1, 29);
        due.is("below 30", x.seats(0), 1);
        x.heats(1, 30);
        due.is("30 is too hot", x.seats(0), 2);
        x.heats(2, 99);
        due.is("nowhere", x.seats(0), NONE);
        due.is("none has one", x.seats(-1), 0);
        due.is("seats(-2)", x.seats(-2), BAD);
        due.is("seats(1)", x.seats(1), BAD);
    }

    private static void seatsInOrder() {
        CopiedFire x = new CopiedFire();
        // 0 must give way to 1, and 3 goes without since 2 comes ahead of it
        x.visitor(0b0011);
        x.visitor(0b0001);
        x.visitor(0b1000);
        x.visitor(0b1000);
        int[] want = {1, 0, 3, NONE};
        for (int i = 0; i < 4; i++) {
            due.is("seats(" + i + ")", x.seats(i), want[i]);
        }
        due.is("three", x.seats(-1), 3);
        due.is("seats(4)", x.seats(4), BAD);
    }

    private static void seatsByAllWays() {
        java.util.Random lot = new java.util.Random(11);
        for (int round = 0; round < 300; round++) {
            CopiedFire x = new CopiedFire();
            int n = lot.nextInt(7);
            int rooms = 1 + lot.nextInt(255);
            int[] likes = new int[n];
            for (int i = 0; i < n; i++) {
                likes[i] = lot.nextInt(256) & rooms;
                x.visitor(likes[i]);
            }
            int below = 0;
            for (int room = 0; room < 8; room++) {
                int heat = lot.nextInt(3) == 0 ? 30 + lot.nextInt(70) : lot.nextInt(30);
                x.heats(room, heat);
                below |= heat < 30 ? 1 << room : 0;
            }
            int[] best = new int[n];
            int most = allWays(likes, below, 0, new int[n], best, -1, 0);
            due.is("round " + round + ": seats(-1)", x.seats(-1), most);
            for (int i = 0; i < n; i++) {
                due.is("round " + round + ": seats(" + i + ")", x.seats(i), best[i]);
            }
        }
    }

    /** Tries all ways, the least rooms first and none last; a later way counts only if it seats more. */
    private static int allWays(int[] likes, int free, int i, int[] way, int[] best, int most, int seated) {
        if (i == likes.length) {
            if (seated > most) {
                System.arraycopy(way, 0, best, 0, way.length);
                return seated;
            }
            return most;
        }
        int now = most;
        for (int room = 0; room < 8; room++) {
            if ((likes[i] & free & 1 << room) != 0) {
                way[i] = room;
                now = allWays(likes, free & ~(1 << room), i + 1, way, best, now, seated + 1);
            }
        }
        way[i] = NONE;
        return allWays(likes, free, i + 1, way, best, now, seated);
    }

    private static void ways() {
        CopiedFire x = new CopiedFire();
        for (int room = 0; room < 7; room++) {
            x.door(room, room + 1, 2);
        }
        for (int from = 0; from < 8; from++) {
            for (int to = 0; to < 8; to++) {
                due.is("way(" + from + ", " + to + ")", x.way(from, to), Math.abs(from - to));
            }
        }
        x.door(0, 6, 2);
        due.is("a shorter one", x.way(0, 7), 2);
        due.is("by the other side", x.way(0, 4), 3);
        x.door(6, 7, 1);
        due.is("shut", x.way(0, 7), NONE);
        due.is("where one is", x.way(7, 7), 0);
        int[][] wrong = {{-1, 0}, {8, 0}, {0, -1}, {0, 8}, {8, 8}};
        for (int[] w : wrong) {
            due.is("way(" + w[0] + ", " + w[1] + ")", x.way(w[0], w[1]), BAD);
        }
    }
}
