/** SHEETS, SLOTS, FINDINGS, THE IMAGE and THE MINUTES TOLD (Terms 5). */
final class EdgesOfSheets {
    private static final int BAD = CopiedFire.BAD;
    private static final int NONE = CopiedFire.NONE;
    private static final int NOTHING = CopiedFire.NOTHING;
    private static final int KIND = CopiedFire.KIND;
    private static final int INDEX = CopiedFire.INDEX;
    private static final int SIZE = CopiedFire.SIZE;

    private EdgesOfSheets() {
    }

    /** A place of a sheet, by slot 4. */
    private static int place(CopiedFire x, int sheet, int place) {
        x.lay(4, 2, sheet);
        return x.item(4, place);
    }

    @Sentence(of = "Terms 5", says = "SHEETS 0 .. 3 are rows of shorts (sort 0) or floats (1; whole numbers),")
    static void fourSheetsOfTwoSorts(Due due) {
        CopiedFire x = new CopiedFire();
        for (int sheet = 0; sheet <= 3; sheet++) {
            due.is("shorts", x.sheet(sheet, 0, 1), 1);
            x.mark(sheet, 0, 40000 + sheet);
            due.is("a short wraps", place(x, sheet, 0), 40000 + sheet - 65536);
            due.is("floats", x.sheet(sheet, 1, 1), 1);
            x.mark(sheet, 0, 40000 + sheet);
        }
        for (int sheet = 0; sheet <= 3; sheet++) {
            due.is("a float does not", place(x, sheet, 0), 40000 + sheet);
            due.is("no sort 2", x.sheet(sheet, 2, 1), BAD);
            due.is("no sort -2", x.sheet(sheet, -2, 1), BAD);
        }
        due.is("no sheet 4", x.sheet(4, 0, 1), BAD);
        due.is("no sheet -1", x.sheet(-1, 0, 1), BAD);
    }

    @Sentence(of = "Terms 5", says = "with 0 to 24 places,")
    static void from0To24Places(Due due) {
        int[] lengths = {0, 1, 23, 24};
        CopiedFire x = new CopiedFire();
        for (int sort = 0; sort <= 1; sort++) {
            for (int n : lengths) {
                due.is("places", x.sheet(0, sort, n), n);
                due.is("the last place", place(x, 0, n - 1), n == 0 ? INDEX : 0);
                due.is("one behind", place(x, 0, n), INDEX);
            }
            due.is("25 places", x.sheet(0, sort, 25), BAD);
            due.is("-1 places", x.sheet(0, sort, -1), SIZE);
            due.is("24 still", place(x, 0, 23), 0);
        }
    }

    @Sentence(of = "Terms 5", says = "or MISSING (at first).")
    static void missingAtFirst(Due due) {
        CopiedFire x = new CopiedFire();
        for (int sheet = 0; sheet <= 3; sheet++) {
            due.is("at first", x.pour(sheet), NOTHING);
            x.sheet(sheet, 0, 0);
            due.is("a sheet without places is not missing", x.pour(sheet), 0);
            x.sheet(sheet, -1, 0);
            due.is("missing again", x.pour(sheet), NOTHING);
        }
    }

    @Sentence(of = "Terms 5", says = "A place of floats may be NO NUMBER.")
    static void noNumberInFloatsAlone(Due due) {
        CopiedFire x = new CopiedFire();
        x.sheet(0, 1, 24);
        due.is("the first", x.mark(0, 0, NONE), 1);
        due.is("the last", x.mark(0, 23, NONE), 1);
        due.is("the first is none", place(x, 0, 0), KIND);
        due.is("the last is none", place(x, 0, 23), KIND);
        due.is("others are numbers", place(x, 0, 22), 0);
        due.is("it can become one again", x.mark(0, 23, 0), 1);
        due.is("it is one", place(x, 0, 23), 0);
        x.sheet(0, 0, 1);
        due.is("not in shorts", x.mark(0, 0, NONE), KIND);
        due.is("all 0 where none was", place(x, 0, 0), 0);
    }

    @Sentence(of = "Terms 5", says = "SLOTS 0 .. 4 each hold nothing (at first),")
    static void fiveSlots(Due due) {
        CopiedFire x = new CopiedFire();
        for (int slot = 0; slot <= 4; slot++) {
            due.is("a thing", x.ask(slot, 0), NOTHING);
            due.is("a sheet", x.item(slot, 0), NOTHING);
            due.is("a number", x.rest(slot, 1), NOTHING);
            due.is("nothing at first", x.lay(slot, 3, slot + 10), 0);
        }
        for (int slot = 0; slot <= 4; slot++) {
            due.is("each its own", x.rest(slot, 100), slot + 10);
            due.is("a number before", x.lay(slot, 0, 0), 3);
            due.is("nothing again", x.rest(slot, 100), NOTHING);
        }
        due.is("no slot 5", x.lay(5, 0, 0), BAD);
        due.is("no slot -1", x.lay(-1, 0, 0), BAD);
    }

    @Sentence(of = "Terms 5", says = "a THING (as it is then, for good),")
    static void aThingAsItIsThen(Due due) {
        CopiedFire x = Twins.still();
        x.keep();
        x.thing(3, 0, 99, 1);
        x.lay(0, 1, 0);
        x.minutes(100);
        due.is("behind minutes", x.ask(0, 3), 206);
        x.turns(0, 5);
        x.set(0, 2, 1);
        due.is("turned and set", x.ask(0, 3), 206);
        x.back();
        due.is("there is no such thing any more", x.told(0, 0), BAD);
        due.is("for good", x.ask(0, 3), 206);
    }

    @Sentence(of = "Terms 5", says = "a SHEET (a row of its own, as it was then),")
    static void aRowOfItsOwn(Due due) {
        CopiedFire x = new CopiedFire();
        x.sheet(0, 1, 24);
        x.mark(0, 23, 7);
        x.lay(0, 2, 0);
        x.mark(0, 23, 8);
        due.is("marked", x.item(0, 23), 7);
        x.sheet(0, 0, 0);
        due.is("made anew", x.item(0, 23), 7);
        x.sheet(0, -1, 0);
        due.is("missing", x.item(0, 23), 7);
        due.is("its own length", x.item(0, 24), INDEX);
        x.sheet(1, 0, 0);
        x.lay(1, 2, 1);
        x.sheet(1, 0, 24);
        due.is("a row without places stays one", x.item(1, 0), INDEX);
        x.lay(2, 2, 1);
        x.mark(1, 0, 5);
        x.lay(3, 2, 1);
        due.is("two rows of one sheet", x.item(2, 0) * 10 + x.item(3, 0), 5);
    }

    @Sentence(of = "Terms 5", says = "or a number.")
    static void anyNumber(Due due) {
        int[] numbers = {0, -1, 1, Integer.MAX_VALUE, Integer.MIN_VALUE, BAD, NONE, NOTHING};
        CopiedFire x = new CopiedFire();
        for (int v : numbers) {
            x.lay(0, 3, v);
            due.is("the number", x.rest(0, 1000000007), v % 1000000007);
        }
    }

    // ---- findings

    @Sentence(of = "Terms 5", says = "FINDINGS: NOTHING: a SHEET is MISSING, a SLOT holds nothing;")
    static void nothing(Due due) {
        CopiedFire x = new CopiedFire();
        x.sheet(1, 0, 1);
        due.is("began", x.began(0), NOTHING);
        due.is("like", x.like(0, 0), NOTHING);
        due.is("mark", x.mark(0, 0, 0), NOTHING);
        due.is("pour", x.pour(0), NOTHING);
        due.is("reads", x.reads(0), NOTHING);
        due.is("copy from", x.copy(0, 0, 1, 0, 1), NOTHING);
        due.is("copy to", x.copy(1, 0, 0, 0, 1), NOTHING);
        due.is("lay", x.lay(0, 2, 0), NOTHING);
        due.is("ask", x.ask(0, 0), NOTHING);
        due.is("item", x.item(0, 0), NOTHING);
        due.is("rest", x.rest(0, 1), NOTHING);
    }

    @Sentence(of = "Terms 5", says = "INDEX: there is no such place;")
    static void index(Due due) {
        int[] wrong = {-1, 3, 24, Integer.MIN_VALUE, Integer.MAX_VALUE};
        CopiedFire x = new CopiedFire();
        x.sheet(0, 0, 3);
        x.lay(0, 2, 0);
        for (int place : wrong) {
            due.is("mark " + place, x.mark(0, place, 0), INDEX);
            due.is("item " + place, x.item(0, place), INDEX);
            due.is("copy from " + place, x.copy(0, place, 0, 0, 1), INDEX);
            due.is("copy to " + place, x.copy(0, 0, 0, place, 1), INDEX);
        }
        due.is("the last place is one", x.mark(0, 2, 1), 1);
        due.is("the first place is one", x.mark(0, 0, 1), 1);
    }

    @Sentence(of = "Terms 5", says = "SIZE: a number of places is below 0;")
    static void size(Due due) {
        CopiedFire x = new CopiedFire();
        due.is("-1", x.sheet(0, 0, -1), SIZE);
        due.is("the least int", x.sheet(3, 1, Integer.MIN_VALUE), SIZE);
        due.is("it is missing as before", x.pour(0), NOTHING);
        due.is("0 is no number below 0", x.sheet(0, 0, 0), 0);
    }

    @Sentence(of = "Terms 5", says = "KIND: it is none (of a KIND, a number, or another thing).")
    static void kind(Due due) {
        CopiedFire x = new CopiedFire();
        x.thing(1, 0, 0, 0);
        x.sheet(0, 1, 1);
        x.mark(0, 0, NONE);
        x.sheet(1, 0, 1);
        x.lay(0, 1, 0);
        x.lay(1, 2, 0);
        x.lay(2, 3, 0);
        due.is("a curtain is no copy", x.as(0, 3), KIND);
        due.is("a curtain in a slot is no copy", x.ask(0, 3), KIND);
        due.is("a sheet is no thing", x.ask(1, 0), KIND);
        due.is("a number is no thing", x.ask(2, 0), KIND);
        due.is("a thing is no sheet", x.item(0, 0), KIND);
        due.is("a number is no sheet", x.item(2, 0), KIND);
        due.is("a thing is no number", x.rest(0, 1), KIND);
        due.is("a sheet is no number", x.rest(1, 1), KIND);
        due.is("a place that is no number", x.item(1, 0), KIND);
        due.is("no number in shorts", x.mark(1, 0, NONE), KIND);
        due.is("floats are no shorts", x.copy(0, 0, 1, 0, 1), KIND);
    }

    // ---- the image, the minutes told

    @Sentence(of = "Terms 5", says = "AN IMAGE keeps all but SHEETS, SLOTS, numbers that wait, THE TAPE;")
    static void whatAnImageKeeps(Due due) {
        String before = Twins.houseOf(changed(Twins.some(), false));
        CopiedFire x = changed(Twins.some(), true);
        due.holds("the house is another one", !before.equals(Twins.houseOf(changed(Twins.some(), true))));
        x.back();
        due.holds("all is as it was kept", before.equals(Twins.houseOf(x)));
        CopiedFire y = Twins.some();
        y.keep();
        y.sheet(3, 0, 1);
        y.mark(3, 0, 9);
        y.lay(3, 3, 9);
        y.tell(1);
        y.trim(4);
        y.back();
        due.is("the sheet stays", place(y, 3, 0), 9);
        due.is("the slot stays", y.rest(3, 10), 9);
        due.is("five numbers wait", y.count(6), 5);
        due.is("four bytes stay", y.count(7), 4);
    }

    /** Kept, with nothing on the tape; then changed in all that an image keeps, or not. */
    private static CopiedFire changed(CopiedFire x, boolean also) {
        x.trim(0);
        x.keep();
        if (also) {
            Due.text(x, "fee 77");
            Due.text(x, "burn 8");
            Due.text(x, "fine 9");
            x.deal(9);
            x.turns(0, 4);
            x.set(1, 1, 5);
            x.set(1, 2, 99);
            x.set(1, 3, 1);
            for (int i = 2; i < 6; i++) {
                x.visitor(255);
            }
            x.likes(0, 200);
            for (int room = 0; room < 8; room++) {
                x.heats(room, 99);
                for (int other = room + 1; other < 8; other++) {
                    x.door(room, other, 1);
                }
            }
            x.rule(0, 100);
            x.rule(1, 9);
            x.minutes(100);
        }
        return x;
    }

    @Sentence(of = "Terms 5", says = "all can become as it is (again and again).")
    static void againAndAgain(Due due) {
        CopiedFire x = Twins.full();
        x.trim(0);
        x.back();
        String first = Twins.houseOf(x);
        CopiedFire y = Twins.full();
        y.trim(0);
        for (int i = 0; i < 20; i++) {
            y.minutes(100);
            Due.text(y, "fee " + i);
            due.is("back", y.back(), 12);
        }
        due.holds("as at the first time", first.equals(Twins.houseOf(y)));
    }

    @Sentence(of = "Terms 5", says = "THE MINUTES TOLD: of n MINUTES, one behind the other, by THE IMAGE: BURNT;"
        + " all HEAT, together, behind each.")
    static void minutesToldOf1And30(Due due) {
        int[] spans = {1, 30};
        for (int n : spans) {
            CopiedFire x = Twins.full();
            x.back();
            x.check(1);
            CopiedFire y = Twins.full();
            y.back();
            for (int k = 0; k < n; k++) {
                y.minutes(1);
                x.tell(y.house(0));
                x.tell(y.house(4));
            }
            x.minutes(50);
            x.set(0, 2, 0);
            due.is("of " + n + ", whatever is now", x.check(n), 0);
        }
    }
}
