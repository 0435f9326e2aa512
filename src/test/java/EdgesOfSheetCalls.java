/** Promises 35 to 43: sheet, mark, pour, reads, copy, lay, ask, item, rest. */
final class EdgesOfSheetCalls {
    private static final int BAD = CopiedFire.BAD;
    private static final int NO = CopiedFire.NO;
    private static final int NONE = CopiedFire.NONE;
    private static final int NOTHING = CopiedFire.NOTHING;
    private static final int KIND = CopiedFire.KIND;
    private static final int INDEX = CopiedFire.INDEX;
    private static final int SIZE = CopiedFire.SIZE;
    private static final int LOW = Integer.MIN_VALUE;
    private static final int BIG = Integer.MAX_VALUE;

    private EdgesOfSheetCalls() {
    }

    /** Of some fire: sheet 0 has 3 shorts, 1 has 2 floats, 2 has no floats, 3 is missing. */
    private static void all(Due due, int want, String name, int[][] calls) {
        for (int[] args : calls) {
            Twins.refused(due, want, name, args);
        }
    }

    private static int place(CopiedFire x, int sheet, int place) {
        x.lay(4, 2, sheet);
        return x.item(4, place);
    }

    private static CopiedFire sheetOf(int sort, int... places) {
        CopiedFire x = Twins.still();
        x.sheet(0, sort, places.length);
        for (int k = 0; k < places.length; k++) {
            x.mark(0, k, places[k]);
        }
        return x;
    }

    private static void holds(Due due, String of, CopiedFire x, int sheet, int... places) {
        for (int k = 0; k < places.length; k++) {
            due.is(of + ": place " + k, place(x, sheet, k), places[k]);
        }
        due.is(of + ": no more places", place(x, sheet, places.length), INDEX);
    }

    // ---- 35 sheet

    @Sentence(of = "Promise 35", says = "A SHEET becomes a row of n places of a sort, all 0")
    static void rowsOfNoneAndOf24(Due due) {
        CopiedFire x = new CopiedFire();
        for (int sheet = 0; sheet <= 3; sheet++) {
            for (int sort = 0; sort <= 1; sort++) {
                due.is("none", x.sheet(sheet, sort, 0), 0);
                holds(due, "none", x, sheet);
                due.is("24", x.sheet(sheet, sort, 24), 24);
                x.mark(sheet, 0, 5);
                x.mark(sheet, 23, 6);
                due.is("one", x.sheet(sheet, sort, 1), 1);
                holds(due, "all 0", x, sheet, 0);
                due.is("24 again", x.sheet(sheet, sort, 24), 24);
                due.is("all 0 again", place(x, sheet, 23), 0);
            }
        }
    }

    @Sentence(of = "Promise 35", says = "(sort -1: MISSING, n any): n (0).")
    static void missingWithAnyN(Due due) {
        int[] any = {0, 1, 24, 25, -1, LOW, BIG};
        CopiedFire x = new CopiedFire();
        for (int n : any) {
            x.sheet(3, 0, 24);
            due.is("n " + n, x.sheet(3, -1, n), 0);
            due.is("it is missing", x.mark(3, 0, 0), NOTHING);
        }
    }

    @Sentence(of = "Promise 35", says = "BAD: sheet, sort, n above 24;")
    static void sheetIsBad(Due due) {
        all(due, BAD, "sheet", new int[][] {
            {-1, 0, 0}, {4, 0, 0}, {LOW, 0, 0}, {BIG, -1, 0}, {0, 2, 0}, {0, -2, 0}, {0, BIG, 0}, {0, 0, 25}, {1, 1, 25},
            {0, 0, BIG}
        });
    }

    @Sentence(of = "Promise 35", says = "BAD: sheet, sort, n above 24; SIZE.")
    static void aSizeBelow0(Due due) {
        all(due, SIZE, "sheet", new int[][] {{0, 0, -1}, {1, 1, -1}, {3, 0, LOW}});
        all(due, BAD, "sheet", new int[][] {{4, 0, -1}, {-1, 1, -1}, {0, 2, -1}, {0, -2, LOW}});
    }

    // ---- 36 mark

    @Sentence(of = "Promise 36", says = "A place of a SHEET becomes v (of shorts its lowest 16 bits;")
    static void theLowest16Bits(Due due) {
        int[][] rows = {
            {0, 0}, {-1, -1}, {32767, 32767}, {32768, -32768}, {-32768, -32768}, {-32769, 32767}, {65535, -1}, {65536, 0},
            {65537, 1}, {BIG, -1}, {LOW, 0}, {BAD, (short) BAD}, {NOTHING, (short) NOTHING}
        };
        CopiedFire x = sheetOf(0, 1, 2, 3);
        for (int[] row : rows) {
            due.is("mark " + row[0], x.mark(0, 1, row[0]), 1);
            holds(due, "mark " + row[0], x, 0, 1, row[1], 3);
        }
    }

    @Sentence(of = "Promise 36", says = "of floats v, -99999 .. 99999;")
    static void theLeastAndTheGreatestFloat(Due due) {
        int[] fine = {99999, 99998, -99999, -99998, 0, 65536};
        CopiedFire x = sheetOf(1, 1, 2, 3);
        for (int v : fine) {
            due.is("mark " + v, x.mark(0, 2, v), 1);
            holds(due, "mark " + v, x, 0, 1, 2, v);
        }
    }

    @Sentence(of = "Promise 36", says = "NONE: NO NUMBER): 1.")
    static void noNumber(Due due) {
        CopiedFire x = sheetOf(1, 1, 2, 3);
        due.is("no number", x.mark(0, 0, NONE), 1);
        holds(due, "no number", x, 0, KIND, 2, 3);
        due.is("a number", x.mark(0, 0, 7), 1);
        holds(due, "a number", x, 0, 7, 2, 3);
    }

    @Sentence(of = "Promise 36", says = "BAD: sheet;")
    static void markOfNoSheet(Due due) {
        all(due, BAD, "mark", new int[][] {{-1, 0, 0}, {4, 0, 0}, {LOW, 0, 0}, {BIG, 0, 0}, {4, -1, NONE}});
    }

    @Sentence(of = "Promise 36", says = "BAD: sheet; NOTHING;")
    static void markOfAMissingSheet(Due due) {
        all(due, NOTHING, "mark", new int[][] {{3, 0, 0}, {3, -1, 0}, {3, 0, NONE}, {3, 24, 100000}});
    }

    @Sentence(of = "Promise 36", says = "NOTHING; INDEX;")
    static void markOfNoPlace(Due due) {
        all(due, INDEX, "mark", new int[][] {
            {0, -1, 0}, {0, 3, 0}, {0, LOW, 0}, {0, BIG, 0}, {2, 0, 0}, {0, 3, NONE}, {1, 2, 100000}, {1, 24, 0}
        });
    }

    @Sentence(of = "Promise 36", says = "INDEX; KIND: NONE in a row of shorts;")
    static void markOfNoneInShorts(Due due) {
        all(due, KIND, "mark", new int[][] {{0, 0, NONE}, {0, 2, NONE}});
        CopiedFire x = sheetOf(0, 5);
        due.is("the number beside NONE", x.mark(0, 0, NONE + 1), 1);
        due.is("the number on the other side", x.mark(0, 0, NONE - 1), 1);
    }

    @Sentence(of = "Promise 36", says = "BAD: v of floats.")
    static void markOfTooGreatAFloat(Due due) {
        all(due, BAD, "mark", new int[][] {
            {1, 0, 100000}, {1, 1, -100000}, {1, 0, BIG}, {1, 0, LOW}, {1, 0, NONE + 1}, {1, 0, NONE - 1}, {1, 1, BAD}
        });
    }

    // ---- 37 pour

    private static CopiedFire poured(CopiedFire x, int... fuels) {
        for (int fuel : fuels) {
            x.thing(0, 0, fuel, 0);
        }
        return x;
    }

    @Sentence(of = "Promise 37", says = "FUEL of THINGS, by numbers, becomes the places of a SHEET from 0 on")
    static void poursFromPlace0On(Due due) {
        CopiedFire x = poured(sheetOf(0, 1, 2, 3, 4, 5, 6, 7, 8, 9, 10, 11, 12, 13), 0, 0, 0, 0, 0, 0, 0, 0, 0, 0, 0, 0);
        due.is("all twelve", x.pour(0), 12);
        for (int i = 0; i < 12; i++) {
            due.is("fuel of " + i, x.told(i, 2), i + 1);
        }
        due.is("no things", sheetOf(0, 1).pour(0), 0);
    }

    @Sentence(of = "Promise 37", says = "(each held within 0 .. 99;")
    static void poursWhatIsHeld(Due due) {
        int[] places = {-99999, -1, 0, 1, 98, 99, 100, 99999};
        int[] want = {0, 0, 0, 1, 98, 99, 99, 99};
        CopiedFire x = poured(sheetOf(1, places), 50, 50, 50, 50, 50, 50, 50, 50);
        due.is("all eight", x.pour(0), 8);
        for (int i = 0; i < want.length; i++) {
            due.is("of " + places[i], x.told(i, 2), want[i]);
        }
        CopiedFire y = poured(sheetOf(0, -32768, 32767), 50, 50);
        y.pour(0);
        due.is("shorts", y.told(0, 2) * 100 + y.told(1, 2), 99);
    }

    @Sentence(of = "Promise 37", says = "NO NUMBER, and beyond the SHEET: it stays):")
    static void whatStays(Due due) {
        CopiedFire x = poured(sheetOf(1, NONE, 9), 7, 7, 7);
        due.is("the second alone", x.pour(0), 1);
        due.is("no number", x.told(0, 2), 7);
        due.is("a number", x.told(1, 2), 9);
        due.is("beyond", x.told(2, 2), 7);
        CopiedFire y = poured(sheetOf(1), 7);
        due.is("no places", y.pour(0), 0);
        due.is("it stays", y.told(0, 2), 7);
    }

    @Sentence(of = "Promise 37", says = "how many are otherwise then.")
    static void howManyAreOtherwise(Due due) {
        CopiedFire x = poured(sheetOf(1, 0, 99, 150, -7, 5), 0, 99, 99, 0, 4);
        due.is("the last alone", x.pour(0), 1);
        due.is("none", x.pour(0), 0);
        due.is("none is lit by it", x.house(3), 0);
    }

    @Sentence(of = "Promise 37", says = "BAD;")
    static void pourIsBad(Due due) {
        all(due, BAD, "pour", new int[][] {{-1}, {4}, {LOW}, {BIG}});
    }

    @Sentence(of = "Promise 37", says = "BAD; NOTHING.")
    static void pourOfAMissingSheet(Due due) {
        all(due, NOTHING, "pour", new int[][] {{3}});
        Twins.refusedWhenFull(due, NOTHING, "pour", 3);
    }

    // ---- 38 reads

    private static CopiedFire inRooms(CopiedFire x, int... rooms) {
        for (int room : rooms) {
            x.thing(0, room, 0, 0);
        }
        return x;
    }

    @Sentence(of = "Promise 38", says = "The first place (of numbers alone) at which a SHEET is not ROOM of that THING")
    static void theFirstPlaceThatIsNot(Due due) {
        due.is("place 0", inRooms(sheetOf(0, 1, 7), 0, 7).reads(0), 0);
        due.is("place 1", inRooms(sheetOf(0, 0, 6), 0, 7).reads(0), 1);
        due.is("both", inRooms(sheetOf(0, 1, 6), 0, 7).reads(0), 0);
        due.is("no number ahead", inRooms(sheetOf(1, NONE, 6), 0, 7).reads(0), 1);
        due.is("the last of twelve", inRooms(sheetOf(0, 0, 0, 0, 0, 0, 0, 0, 0, 0, 0, 0, 8), 0, 0, 0, 0, 0, 0, 0, 0, 0, 0, 0, 0)
            .reads(0), 11);
        due.is("by 8 it would be room 0", inRooms(sheetOf(0, 8), 0).reads(0), 0);
    }

    @Sentence(of = "Promise 38", says = "(of places that are no THING all numbers are not).")
    static void placesThatAreNoThing(Due due) {
        due.is("no things", sheetOf(0, 0).reads(0), 0);
        due.is("behind the last thing", inRooms(sheetOf(0, 3, 0), 3).reads(0), 1);
        due.is("no number, then a number", inRooms(sheetOf(1, 3, NONE, 0), 3).reads(0), 2);
        int[] places = new int[24];
        java.util.Arrays.fill(places, NONE);
        places[23] = 0;
        due.is("the last place", sheetOf(1, places).reads(0), 23);
    }

    @Sentence(of = "Promise 38", says = "BAD;")
    static void readsIsBad(Due due) {
        all(due, BAD, "reads", new int[][] {{-1}, {4}, {LOW}, {BIG}});
    }

    @Sentence(of = "Promise 38", says = "BAD; NOTHING;")
    static void readsAMissingSheet(Due due) {
        all(due, NOTHING, "reads", new int[][] {{3}});
    }

    @Sentence(of = "Promise 38", says = "NONE: there is none.")
    static void readsAsTheRooms(Due due) {
        due.is("no places", sheetOf(0).reads(0), NONE);
        due.is("all are", inRooms(sheetOf(0, 0, 7), 0, 7).reads(0), NONE);
        due.is("fewer places than things", inRooms(sheetOf(0, 0), 0, 7).reads(0), NONE);
        due.is("no numbers", sheetOf(1, NONE, NONE).reads(0), NONE);
    }

    // ---- 39 copy

    @Sentence(of = "Promise 39", says = "So many places of a SHEET come to another one (or the same), as they were: many.")
    static void copiesNoneAndAll(Due due) {
        CopiedFire x = sheetOf(1, 1, NONE, 3);
        x.sheet(3, 1, 24);
        due.is("none", x.copy(0, 0, 3, 0, 0), 0);
        due.is("none behind the last", x.copy(0, 3, 3, 24, 0), 0);
        due.is("nothing came", place(x, 3, 0), 0);
        due.is("all, to the end", x.copy(0, 0, 3, 21, 3), 3);
        due.is("the first", place(x, 3, 21), 1);
        due.is("no number", place(x, 3, 22), KIND);
        due.is("the last", place(x, 3, 23), 3);
        due.is("the one ahead stays", place(x, 3, 20), 0);
        due.is("24 onto themselves", x.copy(3, 0, 3, 0, 24), 24);
        CopiedFire up = sheetOf(0, 1, 2, 3, 4);
        due.is("up", up.copy(0, 0, 0, 1, 3), 3);
        holds(due, "up", up, 0, 1, 1, 2, 3);
        CopiedFire down = sheetOf(0, 1, 2, 3, 4);
        due.is("down", down.copy(0, 1, 0, 0, 3), 3);
        holds(due, "down", down, 0, 2, 3, 4, 4);
    }

    @Sentence(of = "Promise 39", says = "BAD;")
    static void copyIsBad(Due due) {
        all(due, BAD, "copy", new int[][] {
            {-1, 0, 0, 0, 0}, {4, 0, 0, 0, 0}, {0, 0, -1, 0, 0}, {0, 0, 4, 0, 0}, {LOW, 0, BIG, 0, 0}, {4, 9, 3, 9, -1},
            {3, 9, 4, 9, -1}
        });
    }

    @Sentence(of = "Promise 39", says = "BAD; NOTHING;")
    static void copyOfAMissingSheet(Due due) {
        all(due, NOTHING, "copy", new int[][] {{3, 0, 0, 0, 1}, {0, 0, 3, 0, 1}, {3, 0, 3, 0, 0}, {3, -1, 1, -1, -1}});
    }

    @Sentence(of = "Promise 39", says = "NOTHING; KIND: they are not of one sort;")
    static void copyOfAnotherSort(Due due) {
        all(due, KIND, "copy", new int[][] {{0, 0, 1, 0, 1}, {1, 0, 0, 0, 1}, {0, 0, 2, 0, 0}, {0, -1, 1, 9, -1}});
    }

    @Sentence(of = "Promise 39", says = "INDEX. (From a SHEET, its place, to a SHEET, its place.)")
    static void copyOfNoPlace(Due due) {
        all(due, INDEX, "copy", new int[][] {
            {0, -1, 0, 0, 1}, {0, 3, 0, 0, 1}, {0, 0, 0, -1, 1}, {0, 0, 0, 3, 1}, {0, 1, 0, 0, 3}, {0, 0, 0, 1, 3},
            {0, 0, 0, 0, 4}, {0, 4, 0, 0, 0}, {0, 0, 0, 4, 0}, {0, -1, 0, 0, 0}, {0, 0, 0, -1, 0}, {0, 0, 0, 0, -1},
            {0, BIG, 0, 0, 1}, {0, 0, 0, BIG, 1}, {0, 1, 0, 1, BIG}, {0, 0, 0, 0, LOW}, {0, 1, 0, 1, LOW}, {1, 0, 2, 0, 1},
            {2, 0, 1, 0, 1}
        });
    }

    // ---- 40 lay

    @Sentence(of = "Promise 40", says = "A SLOT holds: thing 0 nothing, 1 THING k, 2 SHEET k, 3 the number k: what it held (0 .. 3).")
    static void laysTheFirstAndTheLast(Due due) {
        CopiedFire x = Twins.still();
        for (int i = 0; i < 12; i++) {
            x.thing(0, 0, 10 + i, 0);
        }
        x.sheet(0, 0, 1);
        x.mark(0, 0, 4);
        x.sheet(3, 0, 1);
        x.mark(3, 0, 5);
        for (int slot = 0; slot <= 4; slot += 4) {
            due.is("the first thing", x.lay(slot, 1, 0), 0);
            due.is("it is", x.ask(slot, 0), 10);
            due.is("the last thing", x.lay(slot, 1, 11), 1);
            due.is("it is then", x.ask(slot, 0), 21);
            due.is("the first sheet", x.lay(slot, 2, 0), 1);
            due.is("its place", x.item(slot, 0), 4);
            due.is("the last sheet", x.lay(slot, 2, 3), 2);
            due.is("its place then", x.item(slot, 0), 5);
            due.is("the least number", x.lay(slot, 3, LOW), 2);
            due.is("its rest", x.rest(slot, 10), -8);
            due.is("the greatest number", x.lay(slot, 3, BIG), 3);
            due.is("its rest then", x.rest(slot, 10), 7);
            due.is("nothing, whatever k is", x.lay(slot, 0, LOW), 3);
            due.is("nothing again", x.lay(slot, 0, BIG), 0);
        }
    }

    @Sentence(of = "Promise 40", says = "BAD: slot, thing, k;")
    static void layIsBad(Due due) {
        all(due, BAD, "lay", new int[][] {
            {-1, 0, 0}, {5, 0, 0}, {LOW, 3, 0}, {0, -1, 0}, {0, 4, 0}, {0, BIG, 0}, {0, 1, -1}, {0, 1, 3}, {0, 1, LOW},
            {0, 2, -1}, {0, 2, 4}, {0, 2, BIG}
        });
        Twins.refusedWhenFull(due, BAD, "lay", 0, 1, 12);
    }

    @Sentence(of = "Promise 40", says = "BAD: slot, thing, k; NOTHING: that SHEET is MISSING.")
    static void layOfAMissingSheet(Due due) {
        all(due, NOTHING, "lay", new int[][] {{0, 2, 3}, {3, 2, 3}});
        all(due, BAD, "lay", new int[][] {{5, 2, 3}, {-1, 2, 3}});
    }

    // ---- 41 ask

    @Sentence(of = "Promise 41", says = "WORTH of the THING in a SLOT, taken for one of a KIND (0 .. 5).")
    static void worthOfEachKind(Due due) {
        int[] none = {0, 4, 120, 8, 114, 3};
        int[] most = {99, 103, 21, 206, 15, 3};
        int[] above = {0, 0, 0, 1, 2, 0};
        CopiedFire x = new CopiedFire();
        for (int kind = 0; kind <= 5; kind++) {
            x.thing(kind, 0, 0, 0);
            x.thing(kind, 0, 99, 0);
            x.lay(0, 1, 2 * kind);
            x.lay(4, 1, 2 * kind + 1);
            due.is("as itself, no fuel", x.ask(0, kind), none[kind]);
            due.is("as itself, the most fuel", x.ask(4, kind), most[kind]);
            due.is("as the one above, its own worth", x.ask(4, above[kind]), most[kind]);
            due.is("as a thing, its own worth", x.ask(4, 0), most[kind]);
        }
    }

    @Sentence(of = "Promise 41", says = "BAD;")
    static void askIsBad(Due due) {
        all(due, BAD, "ask", new int[][] {{-1, 0}, {5, 0}, {LOW, 0}, {0, -1}, {0, 6}, {0, BIG}, {1, 6}});
    }

    @Sentence(of = "Promise 41", says = "BAD; NOTHING;")
    static void askOfNothing(Due due) {
        all(due, NOTHING, "ask", new int[][] {{3, 0}, {3, 5}});
        all(due, BAD, "ask", new int[][] {{3, 6}, {3, -1}});
    }

    @Sentence(of = "Promise 41", says = "KIND: it is no THING, or not of that KIND, nor of one under it.")
    static void askOfAnother(Due due) {
        // slot 0 holds a copy, 1 and 4 sheets, 2 a number
        all(due, KIND, "ask", new int[][] {{1, 0}, {2, 0}, {4, 0}, {0, 2}, {0, 4}, {0, 5}});
        CopiedFire x = Twins.some();
        due.is("a copy as a curtain", x.ask(0, 1), x.ask(0, 3));
        CopiedFire y = new CopiedFire();
        y.thing(1, 0, 0, 0);
        y.lay(0, 1, 0);
        due.is("a curtain is no copy", y.ask(0, 3), KIND);
    }

    // ---- 42 item

    @Sentence(of = "Promise 42", says = "A place of the SHEET in a SLOT.")
    static void theFirstAndTheLastPlace(Due due) {
        int[] places = new int[24];
        places[0] = -99999;
        places[23] = 99999;
        CopiedFire x = sheetOf(1, places);
        for (int slot = 0; slot <= 4; slot += 4) {
            x.lay(slot, 2, 0);
            due.is("the first", x.item(slot, 0), -99999);
            due.is("one between", x.item(slot, 12), 0);
            due.is("the last", x.item(slot, 23), 99999);
        }
    }

    @Sentence(of = "Promise 42", says = "BAD: slot;")
    static void itemOfNoSlot(Due due) {
        all(due, BAD, "item", new int[][] {{-1, 0}, {5, 0}, {LOW, 0}, {BIG, -1}});
    }

    @Sentence(of = "Promise 42", says = "BAD: slot; NOTHING;")
    static void itemOfNothing(Due due) {
        all(due, NOTHING, "item", new int[][] {{3, 0}, {3, -1}, {3, 24}});
    }

    @Sentence(of = "Promise 42", says = "NOTHING; KIND: it is no SHEET;")
    static void itemOfAnother(Due due) {
        all(due, KIND, "item", new int[][] {{0, 0}, {2, 0}, {0, -1}, {2, 24}});
    }

    @Sentence(of = "Promise 42", says = "KIND: it is no SHEET; INDEX;")
    static void itemOfNoPlace(Due due) {
        all(due, INDEX, "item", new int[][] {{1, -1}, {1, 3}, {1, LOW}, {1, BIG}, {4, 2}});
        CopiedFire x = sheetOf(1);
        x.lay(0, 2, 0);
        due.is("no places at all", x.item(0, 0), INDEX);
    }

    @Sentence(of = "Promise 42", says = "INDEX; KIND: NO NUMBER.")
    static void itemOfNoNumber(Due due) {
        all(due, KIND, "item", new int[][] {{4, 1}});
    }

    // ---- 43 rest

    @Sentence(of = "Promise 43", says = "The rest of the number in a SLOT by n.")
    static void restsOfTheLeastAndTheGreatest(Due due) {
        int[][] rows = {
            {0, 1, 0}, {7, 3, 1}, {-7, 3, -1}, {7, -3, 1}, {-7, -3, -1}, {5, 1, 0}, {5, -1, 0}, {LOW, -1, 0}, {LOW, 1, 0},
            {LOW, BIG, -1}, {BIG, LOW, BIG}, {LOW, LOW, 0}, {BIG, BIG, 0}, {6, 7, 6}, {7, 7, 0}
        };
        CopiedFire x = new CopiedFire();
        for (int[] row : rows) {
            x.lay(4, 3, row[0]);
            due.is(row[0] + " by " + row[1], x.rest(4, row[1]), row[2]);
        }
    }

    @Sentence(of = "Promise 43", says = "BAD: slot;")
    static void restOfNoSlot(Due due) {
        all(due, BAD, "rest", new int[][] {{-1, 1}, {5, 1}, {LOW, 1}, {BIG, 0}});
    }

    @Sentence(of = "Promise 43", says = "BAD: slot; NOTHING;")
    static void restOfNothing(Due due) {
        all(due, NOTHING, "rest", new int[][] {{3, 1}, {3, 0}});
    }

    @Sentence(of = "Promise 43", says = "NOTHING; KIND: it is no number;")
    static void restOfAnother(Due due) {
        all(due, KIND, "rest", new int[][] {{0, 1}, {1, 1}, {0, 0}, {1, 0}});
    }

    @Sentence(of = "Promise 43", says = "KIND: it is no number; NO: n is 0.")
    static void restBy0(Due due) {
        all(due, NO, "rest", new int[][] {{2, 0}});
        CopiedFire x = new CopiedFire();
        x.lay(0, 3, 0);
        due.is("0 by 0", x.rest(0, 0), NO);
    }
}
