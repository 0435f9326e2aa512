/** Promises 35 to 43: sheet, mark, pour, reads, copy, lay, ask, item, rest. */
public final class SheetsTest {
    private static final int BAD = CopiedFire.BAD;
    private static final int NO = CopiedFire.NO;
    private static final int NONE = CopiedFire.NONE;
    private static final int NOTHING = CopiedFire.NOTHING;
    private static final int KIND = CopiedFire.KIND;
    private static final int INDEX = CopiedFire.INDEX;
    private static final int SIZE = CopiedFire.SIZE;
    private static final Due due = new Due("SheetsTest");

    public static void main(String[] args) {
        sheetsAreMade();
        shortsAreMarked();
        floatsAreMarked();
        markInOrder();
        pours();
        readsRooms();
        copies();
        copiesOntoItself();
        copyInOrder();
        lays();
        laysInOrder();
        asks();
        items();
        rests();
        due.end();
    }

    /** A place of a sheet, by a slot. */
    private static int place(CopiedFire x, int sheet, int place) {
        x.lay(4, 2, sheet);
        return x.item(4, place);
    }

    private static void sheetsAreMade() {
        CopiedFire x = new CopiedFire();
        for (int sheet = 0; sheet < 4; sheet++) {
            due.is("shorts", x.sheet(sheet, 0, 24), 24);
            due.is("all 0", place(x, sheet, 23), 0);
            due.is("no more", place(x, sheet, 24), INDEX);
            x.mark(sheet, 23, 5);
            due.is("floats", x.sheet(sheet, 1, 24), 24);
            due.is("all 0 again", place(x, sheet, 23), 0);
            due.is("none", x.sheet(sheet, 1, 0), 0);
            due.is("no place", place(x, sheet, 0), INDEX);
            due.is("missing", x.sheet(sheet, -1, 99), 0);
            due.is("it is", x.reads(sheet), NOTHING);
            due.is("missing, n below 0", x.sheet(sheet, -1, -99), 0);
        }
        x.sheet(0, 0, 2);
        int[][] wrong = {{-1, 0, 0}, {4, 0, 0}, {0, 2, 0}, {0, -2, 0}, {0, 0, 25}, {0, 1, 25}, {4, -1, 0}, {4, 0, -1}, {0, 2, -1}};
        for (int[] w : wrong) {
            due.is("sheet(" + w[0] + ", " + w[1] + ", " + w[2] + ")", x.sheet(w[0], w[1], w[2]), BAD);
        }
        due.is("sheet(0, 0, -1)", x.sheet(0, 0, -1), SIZE);
        due.is("sheet(0, 1, MIN)", x.sheet(0, 1, Integer.MIN_VALUE), SIZE);
        due.is("as it was", place(x, 0, 1), 0);
        due.is("with two places", place(x, 0, 2), INDEX);
    }

    private static void shortsAreMarked() {
        CopiedFire x = new CopiedFire();
        x.sheet(1, 0, 3);
        int[][] rows = {
            {5, 5}, {-5, -5}, {32767, 32767}, {32768, -32768}, {65535, -1}, {65536, 0}, {-32769, 32767},
            {Integer.MAX_VALUE, -1}, {Integer.MIN_VALUE, 0}, {100000, -31072}
        };
        for (int[] row : rows) {
            due.is("mark(1, 2, " + row[0] + ")", x.mark(1, 2, row[0]), 1);
            due.is("lowest 16 bits of " + row[0], place(x, 1, 2), row[1]);
        }
        due.is("no number", x.mark(1, 2, NONE), KIND);
        due.is("as it was", place(x, 1, 2), -31072);
        due.is("its neighbour", place(x, 1, 1), 0);
    }

    private static void floatsAreMarked() {
        CopiedFire x = new CopiedFire();
        x.sheet(2, 1, 2);
        int[] rows = {5, -5, 99999, -99999, 0, 40000};
        for (int v : rows) {
            due.is("mark(2, 1, " + v + ")", x.mark(2, 1, v), 1);
            due.is("place", place(x, 2, 1), v);
        }
        due.is("100000", x.mark(2, 1, 100000), BAD);
        due.is("-100000", x.mark(2, 1, -100000), BAD);
        due.is("BAD itself", x.mark(2, 1, BAD), BAD);
        due.is("as it was", place(x, 2, 1), 40000);
        due.is("no number", x.mark(2, 1, NONE), 1);
        due.is("it is none", place(x, 2, 1), KIND);
        due.is("a number again", x.mark(2, 1, 3), 1);
        due.is("it is one", place(x, 2, 1), 3);
    }

    private static void markInOrder() {
        CopiedFire x = new CopiedFire();
        due.is("no sheet", x.mark(4, 99, NONE), BAD);
        due.is("no sheet either", x.mark(-1, 0, 0), BAD);
        due.is("missing", x.mark(0, 99, NONE), NOTHING);
        x.sheet(0, 0, 2);
        due.is("no place, then no number", x.mark(0, 2, NONE), INDEX);
        due.is("below 0", x.mark(0, -1, 0), INDEX);
        x.sheet(0, 1, 2);
        due.is("no place, then a bad float", x.mark(0, 2, 100000), INDEX);
    }

    private static void pours() {
        CopiedFire x = new CopiedFire();
        for (int i = 0; i < 6; i++) {
            x.thing(0, 0, 10 * i, i % 2);
        }
        due.is("missing", x.pour(0), NOTHING);
        due.is("pour(-1)", x.pour(-1), BAD);
        due.is("pour(4)", x.pour(4), BAD);
        x.sheet(0, 1, 5);
        int[] places = {-3, 10, 500, NONE, 41};
        for (int i = 0; i < 5; i++) {
            x.mark(0, i, places[i]);
        }
        due.is("0 and 1 are as they were", x.pour(0), 2);
        int[] fuels = {0, 10, 99, 30, 41, 50};
        for (int i = 0; i < 6; i++) {
            due.is("fuel of " + i, x.told(i, 2), fuels[i]);
            due.is("lit of " + i, x.told(i, 3), i % 2);
        }
        due.is("again", x.pour(0), 0);
        x.mark(0, 0, 8);
        due.is("the first alone", x.pour(0), 1);
        due.is("fuel of the first", x.told(0, 2), 8);
        x.sheet(0, 0, 24);
        x.mark(0, 6, 9);
        due.is("all become 0, and there is no seventh", x.pour(0), 6);
        x.sheet(1, 0, 0);
        due.is("no places", x.pour(1), 0);
    }

    private static void readsRooms() {
        CopiedFire x = new CopiedFire();
        due.is("reads(-1)", x.reads(-1), BAD);
        due.is("reads(4)", x.reads(4), BAD);
        due.is("missing", x.reads(0), NOTHING);
        x.sheet(0, 1, 0);
        due.is("no places", x.reads(0), NONE);
        x.sheet(0, 1, 1);
        due.is("no thing there", x.reads(0), 0);
        x.mark(0, 0, NONE);
        due.is("and no number", x.reads(0), NONE);
        for (int i = 0; i < 3; i++) {
            x.thing(0, i + 2, 7, 0);
        }
        x.sheet(0, 1, 5);
        x.mark(0, 0, 2);
        x.mark(0, 1, NONE);
        x.mark(0, 2, 4);
        x.mark(0, 3, NONE);
        due.is("behind the things", x.reads(0), 4);
        x.mark(0, 4, NONE);
        due.is("none", x.reads(0), NONE);
        x.mark(0, 2, 5);
        due.is("the third", x.reads(0), 2);
        x.mark(0, 1, 4);
        due.is("the second", x.reads(0), 1);
    }

    private static void copies() {
        CopiedFire x = new CopiedFire();
        x.sheet(0, 1, 5);
        x.sheet(1, 1, 4);
        for (int i = 0; i < 5; i++) {
            x.mark(0, i, i == 2 ? NONE : 10 + i);
        }
        due.is("copy(0, 1, 1, 0, 3)", x.copy(0, 1, 1, 0, 3), 3);
        int[] want = {11, KIND, 13, 0};
        for (int i = 0; i < 4; i++) {
            due.is("place " + i, place(x, 1, i), want[i]);
        }
        due.is("none of them", x.copy(0, 5, 1, 4, 0), 0);
        due.is("all of them", x.copy(1, 0, 0, 1, 4), 4);
        due.is("the first stays", place(x, 0, 0), 10);
        due.is("the last", place(x, 0, 4), 0);
        x.sheet(2, 0, 2);
        x.sheet(3, 0, 2);
        x.mark(2, 1, -9);
        due.is("shorts", x.copy(2, 1, 3, 0, 1), 1);
        due.is("a short", place(x, 3, 0), -9);
    }

    private static void copiesOntoItself() {
        CopiedFire x = new CopiedFire();
        x.sheet(0, 0, 5);
        for (int i = 0; i < 5; i++) {
            x.mark(0, i, i + 1);
        }
        due.is("up", x.copy(0, 0, 0, 1, 4), 4);
        int[] up = {1, 1, 2, 3, 4};
        for (int i = 0; i < 5; i++) {
            due.is("up: place " + i, place(x, 0, i), up[i]);
        }
        due.is("down", x.copy(0, 1, 0, 0, 4), 4);
        int[] down = {1, 2, 3, 4, 4};
        for (int i = 0; i < 5; i++) {
            due.is("down: place " + i, place(x, 0, i), down[i]);
        }
    }

    private static void copyInOrder() {
        CopiedFire x = new CopiedFire();
        x.sheet(0, 0, 3);
        x.sheet(1, 1, 3);
        x.sheet(2, 0, 2);
        due.is("bad, then missing", x.copy(4, 9, 3, 9, 9), BAD);
        due.is("missing, then bad", x.copy(3, 9, -1, 9, 9), BAD);
        due.is("missing", x.copy(3, 9, 0, 9, 9), NOTHING);
        due.is("missing to", x.copy(0, 9, 3, 9, 9), NOTHING);
        due.is("not of one sort", x.copy(0, 9, 1, 9, 9), KIND);
        due.is("not of one sort, none of them", x.copy(1, 0, 0, 0, 0), KIND);
        int[][] wrong = {
            {-1, 0, 1}, {0, -1, 1}, {3, 0, 1}, {0, 2, 1}, {4, 0, 0}, {0, 3, 0}, {0, 0, 3}, {1, 0, 3}, {0, 0, -1},
            {Integer.MAX_VALUE, 0, 1}, {1, 1, Integer.MAX_VALUE}, {0, 0, Integer.MIN_VALUE}
        };
        for (int[] w : wrong) {
            due.is("copy(0, " + w[0] + ", 2, " + w[1] + ", " + w[2] + ")", x.copy(0, w[0], 2, w[1], w[2]), INDEX);
        }
    }

    private static void lays() {
        CopiedFire x = new CopiedFire();
        x.thing(0, 0, 10, 0);
        x.sheet(0, 0, 1);
        for (int slot = 0; slot < 5; slot++) {
            due.is("a thing", x.lay(slot, 1, 0), 0);
            due.is("a sheet", x.lay(slot, 2, 0), 1);
            due.is("a number", x.lay(slot, 3, Integer.MIN_VALUE), 2);
            due.is("nothing", x.lay(slot, 0, -7), 3);
            due.is("nothing again", x.lay(slot, 0, 7), 0);
        }
    }

    private static void laysInOrder() {
        CopiedFire x = new CopiedFire();
        x.lay(0, 3, 8);
        int[][] wrong = {{-1, 0, 0}, {5, 0, 0}, {0, -1, 0}, {0, 4, 0}, {0, 1, 0}, {0, 1, -1}, {0, 2, -1}, {0, 2, 4}, {5, 2, 0}};
        for (int[] w : wrong) {
            due.is("lay(" + w[0] + ", " + w[1] + ", " + w[2] + ")", x.lay(w[0], w[1], w[2]), BAD);
        }
        due.is("a missing sheet", x.lay(0, 2, 3), NOTHING);
        due.is("as it was", x.rest(0, 5), 3);
    }

    private static void asks() {
        CopiedFire x = new CopiedFire();
        int[] worth = {40, 44, 80, 88, 74, 3};
        boolean[][] isOf = {
            {true, false, false, false, false, false}, {true, true, false, false, false, false},
            {true, false, true, false, false, false}, {true, true, false, true, false, false},
            {true, false, true, false, true, false}, {true, false, false, false, false, true}
        };
        for (int kind = 0; kind < 6; kind++) {
            x.thing(kind, 0, 40, 0);
            x.lay(0, 1, kind);
            for (int asked = 0; asked < 6; asked++) {
                due.is("ask of " + kind + " as " + asked, x.ask(0, asked), isOf[kind][asked] ? worth[kind] : KIND);
            }
        }
        x.lay(0, 1, 3);
        x.turns(3, 5);
        x.set(3, 2, 99);
        due.is("as it was then, for good", x.ask(0, 3), 88);
        due.is("ask(-1, 0)", x.ask(-1, 0), BAD);
        due.is("ask(5, 0)", x.ask(5, 0), BAD);
        due.is("ask(1, 6)", x.ask(1, 6), BAD);
        due.is("ask(1, -1)", x.ask(1, -1), BAD);
        due.is("it holds nothing", x.ask(1, 0), NOTHING);
        x.lay(1, 3, 0);
        due.is("it holds a number", x.ask(1, 0), KIND);
        x.sheet(0, 0, 1);
        x.lay(1, 2, 0);
        due.is("it holds a sheet", x.ask(1, 0), KIND);
    }

    private static void items() {
        CopiedFire x = new CopiedFire();
        x.sheet(0, 1, 2);
        x.mark(0, 0, 77);
        x.mark(0, 1, NONE);
        x.lay(0, 2, 0);
        x.mark(0, 0, 78);
        x.sheet(0, -1, 0);
        due.is("a row of its own", x.item(0, 0), 77);
        due.is("no number", x.item(0, 1), KIND);
        due.is("no place", x.item(0, 2), INDEX);
        due.is("below 0", x.item(0, -1), INDEX);
        due.is("item(-1, 0)", x.item(-1, 0), BAD);
        due.is("item(5, 0)", x.item(5, 0), BAD);
        due.is("it holds nothing", x.item(1, 0), NOTHING);
        x.lay(1, 3, 0);
        due.is("it holds a number", x.item(1, -1), KIND);
        x.thing(0, 0, 0, 0);
        x.lay(1, 1, 0);
        due.is("it holds a thing", x.item(1, 0), KIND);
    }

    private static void rests() {
        CopiedFire x = new CopiedFire();
        int[][] rows = {{7, 3, 1}, {-7, 3, -1}, {7, -3, 1}, {-7, -3, -1}, {0, 5, 0}, {Integer.MIN_VALUE, -1, 0}, {5, 9, 5}};
        for (int[] row : rows) {
            x.lay(2, 3, row[0]);
            due.is(row[0] + " by " + row[1], x.rest(2, row[1]), row[2]);
        }
        due.is("by 0", x.rest(2, 0), NO);
        due.is("rest(-1, 0)", x.rest(-1, 0), BAD);
        due.is("rest(5, 0)", x.rest(5, 0), BAD);
        due.is("it holds nothing", x.rest(1, 0), NOTHING);
        x.sheet(0, 0, 1);
        x.lay(1, 2, 0);
        due.is("it holds a sheet", x.rest(1, 0), KIND);
        x.thing(0, 0, 0, 0);
        x.lay(1, 1, 0);
        due.is("it holds a thing", x.rest(1, 0), KIND);
    }
}
