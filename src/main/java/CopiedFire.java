import java.util.Arrays;

/**
 * A house that is burnt again as it burned then: things in rooms, doors, a hired wind, visitors, laws told as texts,
 * sheets, slots, and an image that all can go back to. See README.md.
 */
public final class CopiedFire {
    public static final int BAD = -1000000001;
    public static final int NO = -1000000002;
    public static final int FULL = -1000000003;
    public static final int NONE = -1000000005;
    public static final int NOTHING = -1000000011;
    public static final int KIND = -1000000012;
    public static final int INDEX = -1000000013;
    public static final int SIZE = -1000000014;

    private static final int ROOMS = 8;
    private static final int ALL_ROOMS = 255;
    private static final int MOST_THINGS = 12;
    private static final int MOST_VISITORS = 6;
    private static final int MOST_FUEL = 99;
    private static final int MOST_HEAT = 99;
    private static final int MOST_WIND = 100;
    private static final int MOST_COOL = 9;
    private static final int LAST_MINUTE = 9999;
    private static final int LAST_THOUGHT = 200;
    /** More than can ever burn. */
    private static final int ENDLESS = 0x7fffffff;
    private static final int HOT_FROM = 50;
    private static final int SEAT_BELOW = 30;

    private static final int NO_DOOR = 0;
    private static final int SHUT_DOOR = 1;
    private static final int OPEN_DOOR = 2;

    private static final int KINDS = 6;
    private static final int THING_KIND = 0;
    private static final int CURTAIN_KIND = 1;
    private static final int DAMP_KIND = 2;
    private static final int COPY_KIND = 3;
    private static final int PLASTER_KIND = 4;
    private static final int BLANK_KIND = 5;
    private static final int[] KIND_ABOVE = {
        THING_KIND, THING_KIND, THING_KIND, CURTAIN_KIND, DAMP_KIND, THING_KIND
    };

    private static final int MOST_TEXTS = 14;
    private static final int KEYS = 3;
    private static final int BURN_KEY = 0;
    private static final int FEE_KEY = 1;
    private static final int FINE_KEY = 2;
    private static final int PLAIN_BURN = 5;
    private static final int MOST_BURN = 99;

    private static final int MOST_BYTES = 96;
    private static final int BYTES_FED = 12;
    private static final int FAULT_BASE = -100;

    private static final int SHEETS = 4;
    private static final int MOST_PLACES = 24;
    private static final int MISSING = -1;
    private static final int SHORTS = 0;
    private static final int FLOATS = 1;
    private static final int MOST_FLOAT = 99999;

    private static final int SLOTS = 5;
    private static final int HOLDS_NOTHING = 0;
    private static final int HOLDS_THING = 1;
    private static final int HOLDS_SHEET = 2;
    private static final int HOLDS_NUMBER = 3;

    private static final int MOST_WAITING = 60;
    private static final int MOST_CHECKED = 30;

    private final Laws laws;
    private final House now;
    private final House image;
    private final House thought;
    private final Seating seating;
    private final Tape tape;
    private final Reader reader;
    private final Sheet[] sheets;
    private final Slot[] slots;
    private final int[] sums;
    private final int[] waiting;
    private int waits;
    private boolean kept;

    public CopiedFire() {
        laws = new Laws();
        now = new House(laws);
        image = new House(laws);
        thought = new House(laws);
        seating = new Seating();
        tape = new Tape();
        reader = new Reader(tape);
        sheets = new Sheet[SHEETS];
        for (int i = 0; i < SHEETS; i++) {
            sheets[i] = new Sheet();
        }
        slots = new Slot[SLOTS];
        for (int i = 0; i < SLOTS; i++) {
            slots[i] = new Slot();
        }
        sums = new int[ROOMS];
        waiting = new int[MOST_WAITING];
        waits = 0;
        kept = false;
    }

    // ---- things

    public int thing(int kind, int room, int fuel, int lit) {
        if (!isKind(kind) || !isRoom(room) || !within(fuel, 0, MOST_FUEL) || !within(lit, 0, 1)) {
            return BAD;
        }
        if (now.things >= MOST_THINGS) {
            return FULL;
        }
        return now.addThing(kind, room, fuel, lit);
    }

    public int told(int thing, int what) {
        if (!isThing(thing)) {
            return BAD;
        }
        switch (what) {
            case 0:
                return now.kinds[thing];
            case 1:
                return now.rooms[thing];
            case 2:
                return now.fuels[thing];
            case 3:
                return now.lits[thing];
            case 4:
                return now.burnsOf(thing);
            case 5:
                return Kinds.gives(now.kinds[thing], now.burnsOf(thing));
            case 6:
                return Kinds.catchesFrom(now.kinds[thing]);
            case 7:
                return Kinds.worth(now.kinds[thing], now.fuels[thing]);
            default:
                return BAD;
        }
    }

    public int as(int thing, int kind) {
        if (!isThing(thing) || !isKind(kind)) {
            return BAD;
        }
        return Kinds.isOf(now.kinds[thing], kind) ? now.fuels[thing] : KIND;
    }

    public int turns(int thing, int kind) {
        if (!isThing(thing) || !isKind(kind)) {
            return BAD;
        }
        int was = now.kinds[thing];
        now.kinds[thing] = kind;
        return was;
    }

    public int set(int thing, int what, int v) {
        if (!isThing(thing)) {
            return BAD;
        }
        switch (what) {
            case 1:
                return replaced(now.rooms, thing, v, ROOMS - 1);
            case 2:
                return replaced(now.fuels, thing, v, MOST_FUEL);
            case 3:
                return replaced(now.lits, thing, v, 1);
            default:
                return BAD;
        }
    }

    public int deal(int n) {
        if (!within(n, 1, MOST_THINGS)) {
            return BAD;
        }
        int came = Math.min(n, MOST_THINGS - now.things);
        for (int i = 0; i < came; i++) {
            now.drawThing();
        }
        return came;
    }

    public int seed(int v) {
        int was = now.z;
        now.z = v;
        return was;
    }

    // ---- rooms, visitors

    public int heat(int room) {
        return isRoom(room) ? now.heats[room] : BAD;
    }

    public int heats(int room, int v) {
        return isRoom(room) ? replaced(now.heats, room, v, MOST_HEAT) : BAD;
    }

    public int door(int one, int other, int v) {
        if (!areTwoRooms(one, other) || !within(v, NO_DOOR, OPEN_DOOR)) {
            return BAD;
        }
        int was = now.doorBetween(one, other);
        now.putDoor(one, other, v);
        return was;
    }

    public int doorTold(int one, int other) {
        return areTwoRooms(one, other) ? now.doorBetween(one, other) : BAD;
    }

    public int rule(int what, int v) {
        if (what == 0 && within(v, 0, MOST_WIND)) {
            int was = now.wind;
            now.wind = v;
            return was;
        }
        if (what == 1 && within(v, 0, MOST_COOL)) {
            int was = now.cool;
            now.cool = v;
            return was;
        }
        return BAD;
    }

    public int visitor(int likes) {
        if (!within(likes, 0, ALL_ROOMS)) {
            return BAD;
        }
        if (now.visitors >= MOST_VISITORS) {
            return FULL;
        }
        now.liked[now.visitors] = likes;
        now.visitors++;
        return now.visitors - 1;
    }

    public int likes(int visitor, int set) {
        return isVisitor(visitor) ? replaced(now.liked, visitor, set, ALL_ROOMS) : BAD;
    }

    public int seats(int what) {
        if (what != -1 && !isVisitor(what)) {
            return BAD;
        }
        int seated = seating.seatAll(now);
        return what == -1 ? seated : seating.given[what];
    }

    public int way(int from, int to) {
        if (!isRoom(from) || !isRoom(to)) {
            return BAD;
        }
        int reached = 1 << from;
        for (int steps = 0; steps < ROOMS; steps++) {
            if ((reached >> to & 1) == 1) {
                return steps;
            }
            reached = now.reachedNext(reached);
        }
        return NONE;
    }

    // ---- minutes

    public int minutes(int n) {
        if (!within(n, 1, 100)) {
            return BAD;
        }
        int before = now.burnt;
        int passing = Math.min(n, LAST_MINUTE - now.minute);
        for (int i = 0; i < passing; i++) {
            now.passMinute();
        }
        return now.burnt - before;
    }

    public int house(int what) {
        switch (what) {
            case 0:
                return now.burnt;
            case 1:
                return now.ashes;
            case 2:
                return now.slams;
            case 3:
                return now.litSet();
            case 4:
                return now.heatTogether();
            case 5:
                return now.visitors;
            default:
                return BAD;
        }
    }

    // ---- what will be

    public int behind(int n, int what) {
        if (!within(n, 0, 100) || !within(what, 0, 3 + ROOMS)) {
            return BAD;
        }
        thought.becomeAs(now);
        thinkOn(n, ENDLESS);
        switch (what) {
            case 0:
                return thought.burnt;
            case 1:
                return thought.ashes;
            case 2:
                return thought.litSet();
            case 3:
                return thought.heatTogether();
            default:
                return thought.heats[what - 4];
        }
    }

    public int out() {
        thought.becomeAs(now);
        for (int k = 0; k <= LAST_THOUGHT; k++) {
            if (thought.litSet() == 0) {
                return k;
            }
            thought.passMinute();
        }
        return NONE;
    }

    public int hot(int room) {
        if (!isRoom(room)) {
            return BAD;
        }
        thought.becomeAs(now);
        for (int k = 0; k <= LAST_THOUGHT; k++) {
            if (thought.heats[room] >= HOT_FROM) {
                return k;
            }
            thought.passMinute();
        }
        return NONE;
    }

    public int shut(int n, int what) {
        if (!within(n, 1, 60) || !within(what, 0, 2)) {
            return BAD;
        }
        int bestOne = NONE;
        int bestOther = NONE;
        int least = ENDLESS;
        for (int one = 0; one < ROOMS; one++) {
            for (int other = one + 1; other < ROOMS; other++) {
                if (now.doorBetween(one, other) == OPEN_DOOR) {
                    thought.becomeAs(now);
                    thought.putDoor(one, other, SHUT_DOOR);
                    int burnt = thinkOn(n, least);
                    if (burnt < least) {
                        bestOne = one;
                        bestOther = other;
                        least = burnt;
                    }
                }
            }
        }
        if (bestOne == NONE) {
            return NONE;
        }
        return what == 0 ? bestOne : what == 1 ? bestOther : least;
    }

    public int hired(int n, int what) {
        if (!within(n, 1, 60) || !within(what, 0, 1)) {
            return BAD;
        }
        int best = 0;
        int most = -1;
        for (int wind = 0; wind <= MOST_WIND; wind += 10) {
            thought.becomeAs(now);
            thought.wind = wind;
            int burnt = thinkOn(n, ENDLESS);
            if (burnt > most) {
                best = wind;
                most = burnt;
            }
        }
        return what == 0 ? best : most;
    }

    public int becomes(int thing, int n, int what) {
        if (!isThing(thing) || !within(n, 1, 60) || !within(what, 0, 1)) {
            return BAD;
        }
        int best = 0;
        int least = ENDLESS;
        for (int kind = 0; kind < KINDS; kind++) {
            thought.becomeAs(now);
            thought.kinds[thing] = kind;
            int burnt = thinkOn(n, least);
            if (burnt < least) {
                best = kind;
                least = burnt;
            }
        }
        return what == 0 ? best : least;
    }

    public int began(int sheet) {
        if (!isSheet(sheet)) {
            return BAD;
        }
        if (sheets[sheet].isMissing()) {
            return NOTHING;
        }
        int set = 0;
        for (int i = 0; i < now.things; i++) {
            if (now.fuels[i] > 0 && canHaveBegunBy(i, sheets[sheet])) {
                set |= 1 << i;
            }
        }
        return set;
    }

    public int like(int sheet, int what) {
        if (!isSheet(sheet) || !within(what, 0, 1)) {
            return BAD;
        }
        if (sheets[sheet].isMissing()) {
            return NOTHING;
        }
        sumDifferences(sheets[sheet]);
        int best = 0;
        for (int room = 1; room < ROOMS; room++) {
            if (sums[room] < sums[best]) {
                best = room;
            }
        }
        return what == 0 ? best : sums[best];
    }

    public int fee() {
        int law = now.counting[FEE_KEY];
        return law < 0 ? now.burnt : laws.work(law, now.burnt, now.ashes, 0);
    }

    public int fine(int thing) {
        if (!isThing(thing)) {
            return BAD;
        }
        int law = now.counting[FINE_KEY];
        return law < 0 ? now.fuels[thing] : laws.work(law, now.fuels[thing], now.rooms[thing], 0);
    }

    // ---- texts

    public int feed(int a, int b, int c) {
        if (tape.length + BYTES_FED > MOST_BYTES) {
            return FULL;
        }
        tape.addFour(a);
        tape.addFour(b);
        tape.addFour(c);
        return tape.length;
    }

    public int trim(int n) {
        if (!within(n, 0, tape.length)) {
            return BAD;
        }
        tape.length = n;
        return n;
    }

    public int text() {
        reader.readText();
        tape.length = 0;
        if (reader.fault >= 0) {
            return FAULT_BASE - reader.fault;
        }
        if (now.texts >= MOST_TEXTS) {
            return FULL;
        }
        laws.put(now.texts, reader.madeText());
        now.counting[reader.key] = now.texts;
        now.texts++;
        return now.texts - 1;
    }

    public int textTold(int text, int what) {
        if (!within(text, 0, now.texts - 1) || !within(what, 0, 1)) {
            return BAD;
        }
        return what == 0 ? laws.keyOf(text) : laws.operandsOf(text);
    }

    public int why(int key) {
        if (!within(key, 0, KEYS - 1)) {
            return BAD;
        }
        return now.counting[key] < 0 ? NONE : now.counting[key];
    }

    // ---- sheets, slots

    public int sheet(int sheet, int sort, int n) {
        if (!isSheet(sheet) || !within(sort, MISSING, FLOATS)) {
            return BAD;
        }
        if (sort == MISSING) {
            sheets[sheet].renew(MISSING, 0);
            return 0;
        }
        if (n > MOST_PLACES) {
            return BAD;
        }
        if (n < 0) {
            return SIZE;
        }
        sheets[sheet].renew(sort, n);
        return n;
    }

    public int mark(int sheet, int place, int v) {
        if (!isSheet(sheet)) {
            return BAD;
        }
        Sheet row = sheets[sheet];
        if (row.isMissing()) {
            return NOTHING;
        }
        if (!row.hasPlace(place)) {
            return INDEX;
        }
        if (row.sort == SHORTS) {
            if (v == NONE) {
                return KIND;
            }
            row.places[place] = (short) v;
            return 1;
        }
        if (v != NONE && !within(v, -MOST_FLOAT, MOST_FLOAT)) {
            return BAD;
        }
        row.places[place] = v;
        return 1;
    }

    public int pour(int sheet) {
        if (!isSheet(sheet)) {
            return BAD;
        }
        Sheet row = sheets[sheet];
        if (row.isMissing()) {
            return NOTHING;
        }
        int otherwise = 0;
        for (int i = 0; i < now.things; i++) {
            if (row.hasNumber(i)) {
                int fuel = held(row.places[i], MOST_FUEL);
                if (fuel != now.fuels[i]) {
                    otherwise++;
                }
                now.fuels[i] = fuel;
            }
        }
        return otherwise;
    }

    public int reads(int sheet) {
        if (!isSheet(sheet)) {
            return BAD;
        }
        Sheet row = sheets[sheet];
        if (row.isMissing()) {
            return NOTHING;
        }
        for (int i = 0; i < row.length; i++) {
            if (row.hasNumber(i) && !(isThing(i) && now.rooms[i] == row.places[i])) {
                return i;
            }
        }
        return NONE;
    }

    public int copy(int from, int place, int to, int at, int many) {
        if (!isSheet(from) || !isSheet(to)) {
            return BAD;
        }
        Sheet source = sheets[from];
        Sheet target = sheets[to];
        if (source.isMissing() || target.isMissing()) {
            return NOTHING;
        }
        if (source.sort != target.sort) {
            return KIND;
        }
        if (!source.hasRow(place, many) || !target.hasRow(at, many)) {
            return INDEX;
        }
        System.arraycopy(source.places, place, target.places, at, many);
        return many;
    }

    public int lay(int slot, int thing, int k) {
        if (!isSlot(slot) || !within(thing, HOLDS_NOTHING, HOLDS_NUMBER)) {
            return BAD;
        }
        if (thing == HOLDS_THING && !isThing(k) || thing == HOLDS_SHEET && !isSheet(k)) {
            return BAD;
        }
        if (thing == HOLDS_SHEET && sheets[k].isMissing()) {
            return NOTHING;
        }
        Slot place = slots[slot];
        int was = place.holds;
        place.holds = thing;
        if (thing == HOLDS_THING) {
            place.kind = now.kinds[k];
            place.fuel = now.fuels[k];
        } else if (thing == HOLDS_SHEET) {
            place.row.becomeAs(sheets[k]);
        } else {
            place.number = k;
        }
        return was;
    }

    public int ask(int slot, int kind) {
        if (!isSlot(slot) || !isKind(kind)) {
            return BAD;
        }
        int finding = findingFor(slot, HOLDS_THING);
        if (finding != 0) {
            return finding;
        }
        Slot place = slots[slot];
        return Kinds.isOf(place.kind, kind) ? Kinds.worth(place.kind, place.fuel) : KIND;
    }

    public int item(int slot, int place) {
        if (!isSlot(slot)) {
            return BAD;
        }
        int finding = findingFor(slot, HOLDS_SHEET);
        if (finding != 0) {
            return finding;
        }
        Sheet row = slots[slot].row;
        if (!row.hasPlace(place)) {
            return INDEX;
        }
        return row.hasNumber(place) ? row.places[place] : KIND;
    }

    public int rest(int slot, int n) {
        if (!isSlot(slot)) {
            return BAD;
        }
        int finding = findingFor(slot, HOLDS_NUMBER);
        if (finding != 0) {
            return finding;
        }
        return n == 0 ? NO : slots[slot].number % n;
    }

    // ---- rows, images

    public int tell(int v) {
        if (waits >= MOST_WAITING) {
            return FULL;
        }
        waiting[waits] = v;
        waits++;
        return waits;
    }

    public int check(int n) {
        int rows = waits;
        waits = 0;
        if (!within(n, 1, MOST_CHECKED)) {
            return BAD;
        }
        if (!kept) {
            return NO;
        }
        thought.becomeAs(image);
        int due = 2 * Math.min(n, LAST_MINUTE - image.minute);
        for (int i = 0; i < due; i += 2) {
            thought.passMinute();
            if (i >= rows || waiting[i] != thought.burnt) {
                return 1 + i;
            }
            if (i + 1 >= rows || waiting[i + 1] != thought.heatTogether()) {
                return 2 + i;
            }
        }
        return rows > due ? 1 + due : 0;
    }

    public int keep() {
        image.becomeAs(now);
        kept = true;
        return image.things;
    }

    public int back() {
        if (!kept) {
            return NO;
        }
        now.becomeAs(image);
        return now.things;
    }

    public int count(int what) {
        switch (what) {
            case 0:
                return now.things;
            case 1:
                return now.minute;
            case 2:
                return now.wind;
            case 3:
                return now.cool;
            case 4:
                return now.visitors;
            case 5:
                return now.texts;
            case 6:
                return waits;
            case 7:
                return tape.length;
            case 8:
                return now.z;
            default:
                return BAD;
        }
    }

    // ---- what the calls share

    private static boolean within(int v, int least, int most) {
        return v >= least && v <= most;
    }

    private static int held(int v, int most) {
        return Math.max(0, Math.min(most, v));
    }

    private static boolean isKind(int kind) {
        return within(kind, 0, KINDS - 1);
    }

    private static boolean isRoom(int room) {
        return within(room, 0, ROOMS - 1);
    }

    private static boolean areTwoRooms(int one, int other) {
        return isRoom(one) && isRoom(other) && one != other;
    }

    private boolean isThing(int thing) {
        return within(thing, 0, now.things - 1);
    }

    private boolean isVisitor(int visitor) {
        return within(visitor, 0, now.visitors - 1);
    }

    private static boolean isSheet(int sheet) {
        return within(sheet, 0, SHEETS - 1);
    }

    private static boolean isSlot(int slot) {
        return within(slot, 0, SLOTS - 1);
    }

    /** The caller has tested the place; only v can still be refused. */
    private static int replaced(int[] row, int place, int v, int most) {
        if (!within(v, 0, most)) {
            return BAD;
        }
        int was = row[place];
        row[place] = v;
        return was;
    }

    /** Burnt never falls: once it has come to enough, whoever looks for less need not think on. */
    private int thinkOn(int n, int enough) {
        for (int k = 0; k < n && thought.burnt < enough; k++) {
            thought.passMinute();
        }
        return thought.burnt;
    }

    private boolean canHaveBegunBy(int thing, Sheet row) {
        thought.becomeAs(now);
        Arrays.fill(thought.lits, 0);
        thought.lits[thing] = 1;
        for (int k = 0; k < row.length; k++) {
            if (k > 0) {
                thought.passMinute();
            }
            if (row.hasNumber(k) && row.places[k] != Integer.bitCount(thought.litSet())) {
                return false;
            }
        }
        return true;
    }

    private void sumDifferences(Sheet row) {
        Arrays.fill(sums, 0);
        thought.becomeAs(now);
        for (int k = 0; k < row.length; k++) {
            if (k > 0) {
                thought.passMinute();
            }
            if (row.hasNumber(k)) {
                for (int room = 0; room < ROOMS; room++) {
                    sums[room] += Math.abs(thought.heats[room] - row.places[k]);
                }
            }
        }
    }

    /** 0, if the slot holds what is asked for. */
    private int findingFor(int slot, int asked) {
        int holds = slots[slot].holds;
        if (holds == HOLDS_NOTHING) {
            return NOTHING;
        }
        return holds == asked ? 0 : KIND;
    }

    /** What each kind does in its own way; a kind that a method does not name does as the one above it. */
    private static final class Kinds {
        static boolean isOf(int kind, int asked) {
            return kind == asked || asked == THING_KIND || KIND_ABOVE[kind] == asked;
        }

        static int burns(int kind, int plain) {
            switch (kind) {
                case CURTAIN_KIND:
                    return plain + 2;
                case COPY_KIND:
                    return 2 * (plain + 2);
                case DAMP_KIND:
                    return plain / 2;
                case PLASTER_KIND:
                    return Math.max(0, plain / 2 - 1);
                case BLANK_KIND:
                    return 0;
                default:
                    return plain;
            }
        }

        static int gives(int kind, int burnt) {
            switch (kind) {
                case CURTAIN_KIND:
                case COPY_KIND:
                    return burnt + 3;
                case DAMP_KIND:
                case PLASTER_KIND:
                    return burnt / 2;
                default:
                    return burnt;
            }
        }

        static int catchesFrom(int kind) {
            switch (kind) {
                case CURTAIN_KIND:
                    return 12;
                case COPY_KIND:
                    return 6;
                case DAMP_KIND:
                    return 35;
                case PLASTER_KIND:
                    return 70;
                case BLANK_KIND:
                    return 100;
                default:
                    return 20;
            }
        }

        static int worth(int kind, int fuel) {
            switch (kind) {
                case CURTAIN_KIND:
                    return fuel + 4;
                case COPY_KIND:
                    return 2 * (fuel + 4);
                case DAMP_KIND:
                    return 120 - fuel;
                case PLASTER_KIND:
                    return 120 - fuel - 6;
                case BLANK_KIND:
                    return 3;
                default:
                    return fuel;
            }
        }
    }

    /** All that an image keeps, so that what is, what is kept and what is only thought are three of the same. */
    private static final class House {
        private final Laws laws;
        private final int[] kinds;
        private final int[] rooms;
        private final int[] fuels;
        private final int[] lits;
        private final int[] heats;
        private final int[] doors;
        private final int[] liked;
        /** The text that counts for each key, or -1. Texts below this house's number of texts are never replaced. */
        private final int[] counting;
        private int things;
        private int visitors;
        private int texts;
        private int wind;
        private int cool;
        private int burnt;
        private int ashes;
        private int slams;
        private int minute;
        private int z;

        House(Laws laws) {
            this.laws = laws;
            kinds = new int[MOST_THINGS];
            rooms = new int[MOST_THINGS];
            fuels = new int[MOST_THINGS];
            lits = new int[MOST_THINGS];
            heats = new int[ROOMS];
            doors = new int[ROOMS * ROOMS];
            liked = new int[MOST_VISITORS];
            counting = new int[KEYS];
            Arrays.fill(counting, -1);
            wind = 20;
            cool = 2;
            z = 1;
        }

        void becomeAs(House other) {
            System.arraycopy(other.kinds, 0, kinds, 0, MOST_THINGS);
            System.arraycopy(other.rooms, 0, rooms, 0, MOST_THINGS);
            System.arraycopy(other.fuels, 0, fuels, 0, MOST_THINGS);
            System.arraycopy(other.lits, 0, lits, 0, MOST_THINGS);
            System.arraycopy(other.heats, 0, heats, 0, ROOMS);
            System.arraycopy(other.doors, 0, doors, 0, ROOMS * ROOMS);
            System.arraycopy(other.liked, 0, liked, 0, MOST_VISITORS);
            System.arraycopy(other.counting, 0, counting, 0, KEYS);
            things = other.things;
            visitors = other.visitors;
            texts = other.texts;
            wind = other.wind;
            cool = other.cool;
            burnt = other.burnt;
            ashes = other.ashes;
            slams = other.slams;
            minute = other.minute;
            z = other.z;
        }

        /** The caller has tested that there is room for one more. */
        int addThing(int kind, int room, int fuel, int lit) {
            kinds[things] = kind;
            rooms[things] = room;
            fuels[things] = fuel;
            lits[things] = lit;
            things++;
            return things - 1;
        }

        void drawThing() {
            int kind = draw() % KINDS;
            int room = draw() % ROOMS;
            int fuel = draw() % 60;
            int lit = draw() % 4 == 0 ? 1 : 0;
            addThing(kind, room, fuel, lit);
        }

        int doorBetween(int one, int other) {
            return doors[one * ROOMS + other];
        }

        void putDoor(int one, int other, int v) {
            doors[one * ROOMS + other] = v;
            doors[other * ROOMS + one] = v;
        }

        int reachedNext(int reached) {
            int next = reached;
            for (int one = 0; one < ROOMS; one++) {
                for (int other = 0; other < ROOMS; other++) {
                    if ((reached >> one & 1) == 1 && doorBetween(one, other) == OPEN_DOOR) {
                        next |= 1 << other;
                    }
                }
            }
            return next;
        }

        int litSet() {
            int set = 0;
            for (int i = 0; i < things; i++) {
                set |= lits[i] << i;
            }
            return set;
        }

        int heatTogether() {
            int together = 0;
            for (int room = 0; room < ROOMS; room++) {
                together += heats[room];
            }
            return together;
        }

        int burnsOf(int thing) {
            int law = counting[BURN_KEY];
            int plain = PLAIN_BURN;
            if (law >= 0) {
                plain = held(laws.work(law, fuels[thing], heats[rooms[thing]], minute), MOST_BURN);
            }
            return Kinds.burns(kinds[thing], plain);
        }

        void passMinute() {
            burnThings();
            spreadHeat();
            coolRooms();
            lightThings();
            blowWind();
            minute++;
        }

        private void burnThings() {
            for (int i = 0; i < things; i++) {
                if (lits[i] == 1) {
                    int burns = Math.min(fuels[i], burnsOf(i));
                    int room = rooms[i];
                    fuels[i] -= burns;
                    burnt += burns;
                    heats[room] = Math.min(MOST_HEAT, heats[room] + Kinds.gives(kinds[i], burns));
                    if (fuels[i] == 0) {
                        lits[i] = 0;
                        ashes++;
                    }
                }
            }
        }

        private void spreadHeat() {
            for (int one = 0; one < ROOMS; one++) {
                for (int other = one + 1; other < ROOMS; other++) {
                    if (doors[one * ROOMS + other] == OPEN_DOOR) {
                        int over = (heats[one] - heats[other]) / 4;
                        heats[one] -= over;
                        heats[other] += over;
                    }
                }
            }
        }

        private void coolRooms() {
            for (int room = 0; room < ROOMS; room++) {
                heats[room] = Math.max(0, heats[room] - cool);
            }
        }

        private void lightThings() {
            for (int i = 0; i < things; i++) {
                if (lits[i] == 0 && fuels[i] > 0 && heats[rooms[i]] >= Kinds.catchesFrom(kinds[i])) {
                    lits[i] = 1;
                }
            }
        }

        private void blowWind() {
            if (draw() % 100 >= wind) {
                return;
            }
            int one = draw() % ROOMS;
            int other = draw() % ROOMS;
            int was = doorBetween(one, other);
            if (one != other && was != NO_DOOR) {
                putDoor(one, other, was == SHUT_DOOR ? OPEN_DOOR : SHUT_DOOR);
                slams++;
            }
        }

        private int draw() {
            z = z * 1103515245 + 12345;
            return z >>> 8;
        }
    }

    /** Seats without trying all ways: by Hall's theorem a group's own likes tell how many of it must go without. */
    private static final class Seating {
        private final int[] likedByGroup;
        private final int[] given;

        Seating() {
            likedByGroup = new int[1 << MOST_VISITORS];
            given = new int[MOST_VISITORS];
        }

        /** How many have a seat; which, stands in given. */
        int seatAll(House house) {
            gatherLikes(house);
            int visitors = house.visitors;
            int free = ALL_ROOMS;
            int seated = mostSeated(0, visitors, free);
            int left = seated;
            for (int i = 0; i < visitors; i++) {
                int room = leastRoom(i, visitors, free, left);
                given[i] = room;
                if (room != NONE) {
                    free &= ~(1 << room);
                    left--;
                }
            }
            return seated;
        }

        private void gatherLikes(House house) {
            int below = 0;
            for (int room = 0; room < ROOMS; room++) {
                if (house.heats[room] < SEAT_BELOW) {
                    below |= 1 << room;
                }
            }
            likedByGroup[0] = 0;
            for (int i = 0; i < house.visitors; i++) {
                int alone = 1 << i;
                for (int group = 0; group < alone; group++) {
                    likedByGroup[alone | group] = likedByGroup[group] | house.liked[i] & below;
                }
            }
        }

        /** The least room with which the others can still come to as many as there can be; none, if there is none. */
        private int leastRoom(int visitor, int visitors, int free, int left) {
            for (int room = 0; room < ROOMS; room++) {
                int bit = 1 << room;
                if ((likedByGroup[1 << visitor] & free & bit) != 0
                        && 1 + mostSeated(visitor + 1, visitors, free & ~bit) == left) {
                    return room;
                }
            }
            return NONE;
        }

        private int mostSeated(int from, int visitors, int free) {
            int all = visitors - from;
            int most = all;
            for (int group = 1; group < 1 << all; group++) {
                int others = all - Integer.bitCount(group);
                most = Math.min(most, others + Integer.bitCount(likedByGroup[group << from] & free));
            }
            return most;
        }
    }

    /** A law as steps, each behind what it works on: numbers as they are, names behind them, signs below 0. */
    private static final class Text {
        private final int key;
        private final int operands;
        private final int[] steps;

        Text(int key, int operands, int[] steps) {
            this.key = key;
            this.operands = operands;
            this.steps = steps;
        }
    }

    private static final class Laws {
        private static final int FIRST_NAME = 10000;

        private final Text[] rows;
        private final int[] stack;

        Laws() {
            rows = new Text[MOST_TEXTS];
            stack = new int[MOST_BYTES];
        }

        private boolean has(int text) {
            return within(text, 0, MOST_TEXTS - 1) && rows[text] != null;
        }

        void put(int text, Text row) {
            if (within(text, 0, MOST_TEXTS - 1)) {
                rows[text] = row;
            }
        }

        int keyOf(int text) {
            return has(text) ? rows[text].key : BAD;
        }

        int operandsOf(int text) {
            return has(text) ? rows[text].operands : BAD;
        }

        /** What a text gives, with what its names stand for. */
        int work(int text, int first, int second, int third) {
            if (!has(text)) {
                return 0;
            }
            int[] steps = rows[text].steps;
            int top = 0;
            for (int i = 0; i < steps.length; i++) {
                int step = steps[i];
                if (step >= FIRST_NAME && top < MOST_BYTES) {
                    int name = step - FIRST_NAME;
                    stack[top] = name == 0 ? first : name == 1 ? second : third;
                    top++;
                } else if (step >= 0 && top < MOST_BYTES) {
                    stack[top] = step;
                    top++;
                } else if (step == -'!' && top >= 1) {
                    stack[top - 1] = stack[top - 1] == 0 ? 1 : 0;
                } else if (top >= 2) {
                    top--;
                    stack[top - 1] = joined(-step, stack[top - 1], stack[top]);
                }
            }
            return stack[0];
        }

        private static int joined(int sign, int a, int b) {
            switch (sign) {
                case '|':
                    return a != 0 || b != 0 ? 1 : 0;
                case '&':
                    return a != 0 && b != 0 ? 1 : 0;
                case '<':
                    return a < b ? 1 : 0;
                case '=':
                    return a == b ? 1 : 0;
                case '>':
                    return a > b ? 1 : 0;
                case '+':
                    return a + b;
                case '-':
                    return a - b;
                case '*':
                    return a * b;
                default:
                    return b == 0 ? 0 : a / b;
            }
        }
    }

    private static final class Tape {
        private final int[] bytes;
        private int length;

        Tape() {
            bytes = new int[MOST_BYTES];
            length = 0;
        }

        void addFour(int v) {
            for (int shift = 24; shift >= 0; shift -= 8) {
                if (length < MOST_BYTES) {
                    bytes[length] = v >>> shift & 255;
                    length++;
                }
            }
        }
    }

    /** Reads the tape word by word, and stands still at the first word or sign with which no text goes on. */
    private static final class Reader {
        private static final int END = -1;
        private static final int LETTERS = -2;
        private static final int DIGITS = -3;
        /** A word that lacks the blank ahead of it. */
        private static final int TIGHT = -4;
        private static final int STOPPED = -5;

        private static final int OR_LEVEL = 0;
        private static final int AND_LEVEL = 1;
        private static final int TEST_LEVEL = 2;
        private static final int SUM_LEVEL = 3;
        private static final int TERM_LEVEL = 4;
        private static final int PIECE_LEVEL = 5;

        private static final int MOST_OPEN = 8;
        private static final int MOST_DIGITS = 4;

        private final Tape tape;
        private final int[] steps;
        private int made;
        private int operands;
        private int key;
        /** A sign's own byte, or one of the numbers above; it stands from start up to next. */
        private int token;
        private int start;
        private int next;
        /** The place of the fault, or -1. */
        private int fault;

        Reader(Tape tape) {
            this.tape = tape;
            steps = new int[MOST_BYTES];
        }

        void readText() {
            made = 0;
            operands = 0;
            fault = -1;
            next = 0;
            token = END;
            goOn();
            key = keyRead();
            if (key < 0) {
                stop();
                return;
            }
            goOn();
            readLevel(OR_LEVEL, 0, 0);
            if (token != END) {
                stop();
            }
        }

        Text madeText() {
            return new Text(key, operands, Arrays.copyOf(steps, made));
        }

        /** With the token gone, nothing is read any more, so that the first fault stays. */
        private void stop() {
            if (fault < 0) {
                fault = start;
            }
            token = STOPPED;
        }

        private void goOn() {
            boolean behindWord = token == LETTERS || token == DIGITS;
            int before = next;
            start = endOfRow(before, ' ', ' ');
            if (start >= tape.length) {
                token = END;
                next = start;
                return;
            }
            boolean tight = behindWord && start == before;
            int first = tape.bytes[start];
            if (within(first, 'a', 'z')) {
                token = tight ? TIGHT : LETTERS;
                next = endOfRow(start, 'a', 'z');
            } else if (within(first, '0', '9')) {
                token = tight ? TIGHT : DIGITS;
                next = endOfRow(start, '0', '9');
            } else {
                token = first;
                next = start + 1;
            }
        }

        private int endOfRow(int from, int least, int most) {
            int end = from;
            while (end < tape.length && within(tape.bytes[end], least, most)) {
                end++;
            }
            return end;
        }

        private int keyRead() {
            if (isWord("burn")) {
                return BURN_KEY;
            }
            if (isWord("fee")) {
                return FEE_KEY;
            }
            return isWord("fine") ? FINE_KEY : -1;
        }

        private boolean isWord(String word) {
            if (token != LETTERS || next - start != word.length()) {
                return false;
            }
            for (int i = 0; i < word.length(); i++) {
                if (tape.bytes[start + i] != word.charAt(i)) {
                    return false;
                }
            }
            return true;
        }

        /** Which of the key's names stands here, or -1. */
        private int nameRead() {
            if (token != LETTERS || next - start != 1) {
                return -1;
            }
            String names = key == BURN_KEY ? "fhn" : key == FEE_KEY ? "ba" : "fr";
            return names.indexOf((char) tape.bytes[start]);
        }

        private int numberRead() {
            int number = 0;
            for (int i = start; i < next; i++) {
                number = number * 10 + tape.bytes[i] - '0';
            }
            return number;
        }

        private void readLevel(int level, int parens, int nots) {
            if (level >= PIECE_LEVEL) {
                readPiece(parens, nots);
                return;
            }
            readLevel(level + 1, parens, nots);
            int most = level == TEST_LEVEL ? 1 : MOST_BYTES;
            for (int i = 0; i < most && isSignOf(level); i++) {
                int sign = token;
                goOn();
                readLevel(level + 1, parens, nots);
                addStep(-sign);
            }
        }

        private boolean isSignOf(int level) {
            switch (level) {
                case OR_LEVEL:
                    return token == '|';
                case AND_LEVEL:
                    return token == '&';
                case TEST_LEVEL:
                    return token == '<' || token == '=' || token == '>';
                case SUM_LEVEL:
                    return token == '+' || token == '-';
                case TERM_LEVEL:
                    return token == '*' || token == '/';
                default:
                    return false;
            }
        }

        private void readPiece(int parens, int nots) {
            int name = nameRead();
            if (name >= 0) {
                addOperand(Laws.FIRST_NAME + name);
            } else if (token == DIGITS && next - start <= MOST_DIGITS) {
                addOperand(numberRead());
            } else if (token == '!' && nots < MOST_OPEN) {
                goOn();
                readPiece(parens, nots + 1);
                addStep(-'!');
            } else if (token == '(' && parens < MOST_OPEN) {
                goOn();
                readLevel(OR_LEVEL, parens + 1, nots);
                if (token == ')') {
                    goOn();
                } else {
                    stop();
                }
            } else {
                stop();
            }
        }

        private void addOperand(int step) {
            addStep(step);
            operands++;
            goOn();
        }

        private void addStep(int step) {
            if (made < MOST_BYTES) {
                steps[made] = step;
                made++;
            }
        }
    }

    /** A row of shorts or floats. Both hold whole numbers alone, and no number is NONE, which neither sort can hold. */
    private static final class Sheet {
        private final int[] places;
        private int sort;
        private int length;

        Sheet() {
            places = new int[MOST_PLACES];
            sort = MISSING;
            length = 0;
        }

        void renew(int newSort, int newLength) {
            Arrays.fill(places, 0);
            sort = newSort;
            length = newLength;
        }

        void becomeAs(Sheet other) {
            System.arraycopy(other.places, 0, places, 0, MOST_PLACES);
            sort = other.sort;
            length = other.length;
        }

        boolean isMissing() {
            return sort == MISSING;
        }

        boolean hasPlace(int place) {
            return within(place, 0, length - 1);
        }

        boolean hasNumber(int place) {
            return hasPlace(place) && places[place] != NONE;
        }

        /** As a difference, since the sum of the two could wrap. */
        boolean hasRow(int place, int many) {
            return within(many, 0, length) && within(place, 0, length - many);
        }
    }

    private static final class Slot {
        private final Sheet row;
        private int holds;
        private int kind;
        private int fuel;
        private int number;

        Slot() {
            row = new Sheet();
            holds = HOLDS_NOTHING;
        }
    }
}
