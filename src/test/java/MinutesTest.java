/** Promises 18 and 19: minutes, house; and what a minute does, step by step. */
public final class MinutesTest {
    private static final int BAD = CopiedFire.BAD;
    private static final int[] CATCHES = {20, 12, 35, 6, 70, 100};
    private static final Due due = new Due("MinutesTest");

    public static void main(String[] args) {
        oneThingBurnsDown();
        eachKindBurns();
        aLawIsWorkedOutThingByThing();
        litWithoutFuel();
        heatIsHeld();
        heatGoesOver();
        roomsCool();
        thingsCatch();
        windByDraws();
        windBelow();
        noMoreThanTheLast();
        wrongInputs();
        theHouse();
        due.end();
    }

    private static CopiedFire calm() {
        CopiedFire x = new CopiedFire();
        x.rule(0, 0);
        return x;
    }

    private static void oneThingBurnsDown() {
        CopiedFire x = calm();
        x.thing(0, 2, 12, 1);
        int[][] want = {{5, 7, 3, 1, 0}, {5, 2, 6, 1, 0}, {2, 0, 6, 0, 1}, {0, 0, 4, 0, 1}};
        for (int i = 0; i < want.length; i++) {
            due.is("burnt in minute " + i, x.minutes(1), want[i][0]);
            due.is("fuel", x.told(0, 2), want[i][1]);
            due.is("heat", x.heat(2), want[i][2]);
            due.is("lit", x.told(0, 3), want[i][3]);
            due.is("ashes", x.house(1), want[i][4]);
            due.is("the minute", x.count(1), i + 1);
        }
        due.is("burnt", x.house(0), 12);
        due.is("ten more", x.minutes(10), 0);
        due.is("cold", x.heat(2), 0);
    }

    private static void eachKindBurns() {
        int[] burns = {5, 7, 2, 14, 1, 0};
        int[] gives = {5, 10, 1, 17, 0, 0};
        CopiedFire x = calm();
        x.rule(1, 0);
        for (int kind = 0; kind < 6; kind++) {
            x.thing(kind, kind, 50, 1);
        }
        due.is("together", x.minutes(1), 29);
        for (int kind = 0; kind < 6; kind++) {
            due.is("fuel of kind " + kind, x.told(kind, 2), 50 - burns[kind]);
            due.is("heat by kind " + kind, x.heat(kind), gives[kind]);
            due.is("lit, kind " + kind, x.told(kind, 3), 1);
        }
    }

    private static void aLawIsWorkedOutThingByThing() {
        CopiedFire x = calm();
        x.rule(1, 0);
        Due.text(x, "burn h+1");
        x.thing(0, 0, 50, 1);
        x.thing(0, 0, 50, 1);
        due.is("1, and 2 by the heat of the first", x.minutes(1), 3);
        due.is("4, and 8", x.minutes(1), 12);
        CopiedFire y = calm();
        Due.text(y, "burn n*10+f/9");
        y.thing(0, 0, 90, 1);
        due.is("minute 0", y.minutes(1), 10);
        due.is("minute 1", y.minutes(1), 18);
        due.is("minute 2", y.minutes(1), 26);
    }

    private static void litWithoutFuel() {
        CopiedFire x = calm();
        x.rule(1, 0);
        x.thing(1, 0, 0, 1);
        x.thing(5, 1, 0, 1);
        due.is("nothing burns", x.minutes(1), 0);
        due.is("two ashes", x.house(1), 2);
        due.is("none is lit", x.house(3), 0);
        due.is("a curtain gives 3 of nothing", x.heat(0), 3);
        due.is("a blank gives nothing", x.heat(1), 0);
        x.thing(1, 2, 4, 1);
        due.is("less than it burns", x.minutes(1), 4);
        due.is("gives of what it burned", x.heat(2), 7);
    }

    private static void heatIsHeld() {
        CopiedFire x = calm();
        x.rule(1, 0);
        x.heats(0, 98);
        x.thing(3, 0, 99, 1);
        x.minutes(1);
        due.is("99 at most", x.heat(0), 99);
        CopiedFire y = calm();
        y.heats(0, 98);
        y.thing(3, 0, 99, 1);
        y.minutes(1);
        due.is("held ahead of the cooling", y.heat(0), 97);
    }

    private static void heatGoesOver() {
        int[][] doors = {{0, 1}, {1, 2}, {0, 2}};
        CopiedFire x = calm();
        x.rule(1, 0);
        for (int[] d : doors) {
            x.door(d[0], d[1], 2);
        }
        x.door(0, 4, 1);
        x.door(0, 3, 2);
        x.heats(0, 40);
        x.minutes(1);
        int[] want = {18, 10, 7, 5, 0, 0, 0, 0};
        for (int room = 0; room < 8; room++) {
            due.is("heat of " + room, x.heat(room), want[room]);
        }
        CopiedFire y = calm();
        y.rule(1, 0);
        y.door(7, 5, 2);
        y.door(5, 6, 2);
        y.heats(7, 15);
        y.minutes(1);
        due.is("5 and 6 first, then from 7 to 5", y.heat(5), 3);
        due.is("cut", y.heat(7), 12);
        due.is("nothing yet", y.heat(6), 0);
        y.heats(5, 7);
        y.heats(6, 4);
        y.heats(7, 10);
        y.minutes(1);
        due.is("a quarter of 3 is 0", y.heat(5) * 10000 + y.heat(6) * 100 + y.heat(7), 70410);
    }

    private static void roomsCool() {
        for (int cool = 0; cool <= 9; cool++) {
            CopiedFire x = calm();
            x.rule(1, cool);
            for (int room = 0; room < 8; room++) {
                x.heats(room, room);
            }
            x.minutes(1);
            for (int room = 0; room < 8; room++) {
                due.is("cool " + cool + ", room " + room, x.heat(room), Math.max(0, room - cool));
            }
        }
    }

    private static void thingsCatch() {
        for (int kind = 0; kind < 6; kind++) {
            CopiedFire x = calm();
            x.rule(1, 1);
            int from = CATCHES[kind];
            x.thing(kind, 0, 1, 0);
            x.thing(kind, 1, 1, 0);
            x.thing(kind, 0, 0, 0);
            x.heats(0, Math.min(99, from + 1));
            x.heats(1, Math.min(99, from));
            x.minutes(1);
            due.is("kind " + kind + " catches", x.house(3), kind == 5 ? 0 : 1);
        }
        CopiedFire x = calm();
        x.thing(0, 0, 5, 1);
        x.heats(0, 90);
        x.minutes(1);
        due.is("what is out has no fuel to catch with", x.house(3), 0);
        x.thing(0, 0, 50, 0);
        due.is("it burns only from the next minute on", x.minutes(1), 0);
        due.is("then it does", x.minutes(1), 5);
    }

    private static void windByDraws() {
        int toggled = 0;
        int same = 0;
        for (int seed = 0; seed < 120; seed++) {
            int z1 = Due.nextZ(seed * 7919);
            int z2 = Due.nextZ(z1);
            int z3 = Due.nextZ(z2);
            int one = Due.drawn(z2, 8);
            int other = Due.drawn(z3, 8);
            for (int door = 0; door < 3; door++) {
                CopiedFire x = new CopiedFire();
                x.rule(0, 100);
                x.seed(seed * 7919);
                int before = one == other ? BAD : door;
                if (one != other) {
                    x.door(one, other, door);
                }
                x.minutes(1);
                int behind = before == 1 ? 2 : before == 2 ? 1 : before;
                due.is("seed " + seed + ": the door", x.doorTold(one, other), behind);
                due.is("seed " + seed + ": slams", x.house(2), before == 1 || before == 2 ? 1 : 0);
                due.is("seed " + seed + ": three draws", x.count(8), z3);
            }
            toggled += one == other ? 0 : 1;
            same += one == other ? 1 : 0;
        }
        due.holds("both cases came", toggled > 0 && same > 0);
    }

    private static void windBelow() {
        for (int seed = 1; seed <= 60; seed++) {
            int first = Due.nextZ(seed);
            int rest = Due.drawn(first, 100);
            int third = Due.nextZ(Due.nextZ(first));
            CopiedFire x = new CopiedFire();
            x.rule(0, rest);
            x.seed(seed);
            x.minutes(1);
            due.is("seed " + seed + ": not below", x.count(8), first);
            x.rule(0, rest + 1);
            x.seed(seed);
            x.minutes(1);
            due.is("seed " + seed + ": below", x.count(8), third);
        }
    }

    private static void noMoreThanTheLast() {
        CopiedFire x = calm();
        Due.text(x, "burn n>9989");
        x.thing(0, 0, 99, 1);
        for (int i = 0; i < 99; i++) {
            x.minutes(100);
        }
        due.is("the minute", x.count(1), 9900);
        due.is("99 of 100, of which 9990 to 9998 burn", x.minutes(100), 9);
        due.is("the last", x.count(1), 9999);
        int z = x.count(8);
        due.is("none are left", x.minutes(1), 0);
        due.is("no draw", x.count(8), z);
        due.is("still the last", x.count(1), 9999);
        due.is("fuel", x.told(0, 2), 90);
    }

    private static void wrongInputs() {
        CopiedFire x = new CopiedFire();
        x.thing(0, 0, 50, 1);
        int[] wrong = {0, -1, 101, Integer.MAX_VALUE, Integer.MIN_VALUE};
        for (int n : wrong) {
            due.is("minutes(" + n + ")", x.minutes(n), BAD);
        }
        due.is("no minute", x.count(1), 0);
        due.is("minutes(100)", x.minutes(100), 50);
        due.is("a hundred", x.count(1), 100);
        due.is("house(-1)", x.house(-1), BAD);
        due.is("house(6)", x.house(6), BAD);
    }

    private static void theHouse() {
        CopiedFire x = calm();
        for (int i = 0; i < 12; i++) {
            x.thing(5, 0, 1, i % 3 == 0 ? 1 : 0);
        }
        due.is("lit, as a set", x.house(3), 0b001001001001);
        x.set(11, 3, 1);
        due.is("the highest bit", x.house(3), 0b101001001001);
        for (int room = 0; room < 8; room++) {
            x.heats(room, 99);
        }
        due.is("all heat", x.house(4), 792);
        x.visitor(0);
        due.is("visitors", x.house(5), 1);
    }
}
