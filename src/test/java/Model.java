import java.util.ArrayList;
import java.util.HashMap;
import java.util.List;
import java.util.Map;
import java.util.TreeMap;

/**
 * The document once more, written from its words in another way (kinds as classes, texts as trees, seats by all ways,
 * whole copies instead of rows used again), so that ModelTest can hold the program against it.
 */
final class Model {
    static final int BAD = -1000000001;
    static final int NO = -1000000002;
    static final int FULL = -1000000003;
    static final int NONE = -1000000005;
    static final int NOTHING = -1000000011;
    static final int KIND = -1000000012;
    static final int INDEX = -1000000013;
    static final int SIZE = -1000000014;

    State s = new State();
    State image;
    List<Integer> tape = new ArrayList<>();
    List<Integer> waiting = new ArrayList<>();
    Object[] sheets = new Object[4];
    Object[] slots = new Object[5];

    // ---- kinds

    static class Thing {
        int kind;
        int room;
        int fuel;
        int lit;

        int burns(int plain) {
            return plain;
        }

        int gives(int v) {
            return v;
        }

        int catches() {
            return 20;
        }

        int worth() {
            return fuel;
        }

        static Thing of(int kind, Thing like) {
            Thing t = new Thing[] {new Thing(), new Curtain(), new Damp(), new Copy(), new Plaster(), new Blank()}[kind];
            t.kind = kind;
            t.room = like.room;
            t.fuel = like.fuel;
            t.lit = like.lit;
            return t;
        }

        boolean is(int asked) {
            Class<?>[] all = {Thing.class, Curtain.class, Damp.class, Copy.class, Plaster.class, Blank.class};
            return all[asked].isInstance(this);
        }
    }

    static class Curtain extends Thing {
        int burns(int plain) {
            return super.burns(plain) + 2;
        }

        int gives(int v) {
            return super.gives(v) + 3;
        }

        int catches() {
            return super.catches() - 8;
        }

        int worth() {
            return super.worth() + 4;
        }
    }

    static final class Copy extends Curtain {
        int burns(int plain) {
            return 2 * super.burns(plain);
        }

        int catches() {
            return super.catches() / 2;
        }

        int worth() {
            return 2 * super.worth();
        }
    }

    static class Damp extends Thing {
        int burns(int plain) {
            return super.burns(plain) / 2;
        }

        int gives(int v) {
            return super.gives(v) / 2;
        }

        int catches() {
            return super.catches() + 15;
        }

        int worth() {
            return 120 - fuel;
        }
    }

    static final class Plaster extends Damp {
        int burns(int plain) {
            return Math.max(0, super.burns(plain) - 1);
        }

        int catches() {
            return 2 * super.catches();
        }

        int worth() {
            return super.worth() - 6;
        }
    }

    static final class Blank extends Thing {
        int burns(int plain) {
            return 0;
        }

        int catches() {
            return 100;
        }

        int worth() {
            return 3;
        }
    }

    // ---- all that an image keeps

    static final class State {
        List<Thing> things = new ArrayList<>();
        List<Integer> visitors = new ArrayList<>();
        List<Law> laws = new ArrayList<>();
        Map<Integer, Integer> heat = new HashMap<>();
        TreeMap<Integer, Integer> doors = new TreeMap<>();
        int wind = 20;
        int cool = 2;
        int burnt;
        int ashes;
        int slams;
        int minute;
        int z = 1;

        State copied() {
            State c = new State();
            for (Thing t : things) {
                c.things.add(Thing.of(t.kind, t));
            }
            c.visitors.addAll(visitors);
            c.laws.addAll(laws);
            c.heat.putAll(heat);
            c.doors.putAll(doors);
            c.wind = wind;
            c.cool = cool;
            c.burnt = burnt;
            c.ashes = ashes;
            c.slams = slams;
            c.minute = minute;
            c.z = z;
            return c;
        }

        int heatOf(int room) {
            return heat.getOrDefault(room, 0);
        }

        int allHeat() {
            return heat.values().stream().mapToInt(v -> v).sum();
        }

        static int between(int one, int other) {
            return Math.min(one, other) * 10 + Math.max(one, other);
        }

        int lawOf(String key) {
            int found = -1;
            for (int i = 0; i < laws.size(); i++) {
                found = laws.get(i).key.equals(key) ? i : found;
            }
            return found;
        }

        int burnsNow(Thing t) {
            int law = lawOf("burn");
            int plain = 5;
            if (law >= 0) {
                plain = laws.get(law).root.value(Map.of("f", t.fuel, "h", heatOf(t.room), "n", minute));
            }
            return t.burns(plain < 0 ? 0 : plain > 99 ? 99 : plain);
        }

        int draw() {
            z = (int) (z * 1103515245L + 12345L);
            return z >>> 8;
        }

        int lit() {
            int set = 0;
            for (int i = 0; i < things.size(); i++) {
                set += things.get(i).lit == 1 ? 1 << i : 0;
            }
            return set;
        }

        State passed(int n) {
            State c = copied();
            for (int i = 0; i < n; i++) {
                c.pass();
            }
            return c;
        }

        void pass() {
            for (Thing t : things) {
                if (t.lit == 1) {
                    int part = Math.min(burnsNow(t), t.fuel);
                    t.fuel -= part;
                    burnt += part;
                    heat.put(t.room, Math.min(99, heatOf(t.room) + t.gives(part)));
                    if (t.fuel == 0) {
                        t.lit = 0;
                        ashes++;
                    }
                }
            }
            for (Map.Entry<Integer, Integer> door : doors.entrySet()) {
                if (door.getValue() == 2) {
                    int one = door.getKey() / 10;
                    int other = door.getKey() % 10;
                    int more = heatOf(one) >= heatOf(other) ? one : other;
                    int less = one + other - more;
                    int quarter = (heatOf(more) - heatOf(less)) / 4;
                    heat.put(more, heatOf(more) - quarter);
                    heat.put(less, heatOf(less) + quarter);
                }
            }
            heat.replaceAll((room, v) -> Math.max(0, v - cool));
            for (Thing t : things) {
                if (t.lit == 0 && t.fuel != 0 && heatOf(t.room) >= t.catches()) {
                    t.lit = 1;
                }
            }
            if (draw() % 100 < wind) {
                int one = draw() % 8;
                int other = draw() % 8;
                int door = one == other ? 0 : doors.getOrDefault(between(one, other), 0);
                if (door != 0) {
                    doors.put(between(one, other), 3 - door);
                    slams++;
                }
            }
            minute++;
        }
    }

    // ---- texts

    static final class Law {
        String key;
        Node root;
        int operands;
    }

    static final class Node {
        String what;
        Node left;
        Node right;

        Node(String what, Node left, Node right) {
            this.what = what;
            this.left = left;
            this.right = right;
        }

        int value(Map<String, Integer> names) {
            if (left == null) {
                return names.containsKey(what) ? names.get(what) : Integer.parseInt(what);
            }
            int a = left.value(names);
            if (right == null) {
                return a == 0 ? 1 : 0;
            }
            int b = right.value(names);
            switch (what) {
                case "|":
                    return (a | b) != 0 ? 1 : 0;
                case "&":
                    return a == 0 ? 0 : b == 0 ? 0 : 1;
                case "<":
                    return a < b ? 1 : 0;
                case "=":
                    return a == b ? 1 : 0;
                case ">":
                    return a > b ? 1 : 0;
                case "+":
                    return (int) ((long) a + b);
                case "-":
                    return (int) ((long) a - b);
                case "*":
                    return (int) ((long) a * b);
                default:
                    return b == 0 ? 0 : (int) ((long) a / b);
            }
        }
    }

    static final class Fault extends RuntimeException {
        private static final long serialVersionUID = 1;
        final int place;

        Fault(int place) {
            this.place = place;
        }
    }

    static final class Parser {
        final List<String> words = new ArrayList<>();
        final List<Integer> starts = new ArrayList<>();
        final List<Boolean> tight = new ArrayList<>();
        final Law law = new Law();
        String names = "";
        int at;

        Parser(List<Integer> tape) {
            boolean word = false;
            int i = 0;
            while (i < tape.size()) {
                int sort = sort(tape.get(i));
                int end = i + 1;
                while (sort < 2 && end < tape.size() && sort(tape.get(end)) == sort) {
                    end++;
                }
                if (sort != 2) {
                    StringBuilder text = new StringBuilder();
                    for (int k = i; k < end; k++) {
                        text.append((char) (int) tape.get(k));
                    }
                    words.add(text.toString());
                    starts.add(i);
                    tight.add(word && sort < 2);
                }
                word = sort < 2;
                i = end;
            }
            words.add("END");
            starts.add(tape.size());
            tight.add(false);
        }

        /** 0 letters, 1 digits, 2 a blank, 3 a sign. */
        private static int sort(int b) {
            return b >= 'a' && b <= 'z' ? 0 : b >= '0' && b <= '9' ? 1 : b == ' ' ? 2 : 3;
        }

        String word() {
            return tight.get(at) ? "TIGHT" : words.get(at);
        }

        Law law() {
            Map<String, String> keys = Map.of("burn", "fhn", "fee", "ba", "fine", "fr");
            if (!keys.containsKey(word())) {
                throw new Fault(starts.get(at));
            }
            law.key = word();
            names = keys.get(word());
            at++;
            law.root = or(0, 0);
            if (!word().equals("END")) {
                throw new Fault(starts.get(at));
            }
            return law;
        }

        Node or(int open, int nots) {
            Node left = and(open, nots);
            while (word().equals("|")) {
                at++;
                left = new Node("|", left, and(open, nots));
            }
            return left;
        }

        Node and(int open, int nots) {
            Node left = test(open, nots);
            while (word().equals("&")) {
                at++;
                left = new Node("&", left, test(open, nots));
            }
            return left;
        }

        Node test(int open, int nots) {
            Node left = sum(open, nots);
            if (word().matches("[<=>]")) {
                String sign = word();
                at++;
                left = new Node(sign, left, sum(open, nots));
            }
            return left;
        }

        Node sum(int open, int nots) {
            Node left = term(open, nots);
            while (word().matches("[+-]")) {
                String sign = word();
                at++;
                left = new Node(sign, left, term(open, nots));
            }
            return left;
        }

        Node term(int open, int nots) {
            Node left = piece(open, nots);
            while (word().matches("[*/]")) {
                String sign = word();
                at++;
                left = new Node(sign, left, piece(open, nots));
            }
            return left;
        }

        Node piece(int open, int nots) {
            String word = word();
            if (word.matches("[0-9]{1,4}") || word.length() == 1 && names.contains(word)) {
                at++;
                law.operands++;
                return new Node(word, null, null);
            }
            if (word.equals("!") && nots < 8) {
                at++;
                return new Node("!", piece(open, nots + 1), null);
            }
            if (word.equals("(") && open < 8) {
                at++;
                Node inner = or(open + 1, nots);
                if (word().equals(")")) {
                    at++;
                    return inner;
                }
            }
            throw new Fault(starts.get(at));
        }
    }

    // ---- the calls

    static boolean in(int v, int least, int most) {
        return least <= v && v <= most;
    }

    boolean hasThing(int i) {
        return in(i, 0, s.things.size() - 1);
    }

    public int thing(int kind, int room, int fuel, int lit) {
        if (!in(kind, 0, 5) || !in(room, 0, 7) || !in(fuel, 0, 99) || !in(lit, 0, 1)) {
            return BAD;
        }
        if (s.things.size() == 12) {
            return FULL;
        }
        Thing like = new Thing();
        like.room = room;
        like.fuel = fuel;
        like.lit = lit;
        s.things.add(Thing.of(kind, like));
        return s.things.size() - 1;
    }

    public int told(int thing, int what) {
        if (!hasThing(thing) || !in(what, 0, 7)) {
            return BAD;
        }
        Thing t = s.things.get(thing);
        int burns = s.burnsNow(t);
        return new int[] {t.kind, t.room, t.fuel, t.lit, burns, t.gives(burns), t.catches(), t.worth()}[what];
    }

    public int as(int thing, int kind) {
        if (!hasThing(thing) || !in(kind, 0, 5)) {
            return BAD;
        }
        return s.things.get(thing).is(kind) ? s.things.get(thing).fuel : KIND;
    }

    public int turns(int thing, int kind) {
        if (!hasThing(thing) || !in(kind, 0, 5)) {
            return BAD;
        }
        Thing t = s.things.get(thing);
        s.things.set(thing, Thing.of(kind, t));
        return t.kind;
    }

    public int set(int thing, int what, int v) {
        if (!hasThing(thing) || !in(what, 1, 3) || !in(v, 0, new int[] {0, 7, 99, 1}[what])) {
            return BAD;
        }
        Thing t = s.things.get(thing);
        int was = told(thing, what);
        if (what == 1) {
            t.room = v;
        } else if (what == 2) {
            t.fuel = v;
        } else {
            t.lit = v;
        }
        return was;
    }

    public int deal(int n) {
        if (!in(n, 1, 12)) {
            return BAD;
        }
        int came = 0;
        while (came < n && s.things.size() < 12) {
            Thing like = new Thing();
            int kind = s.draw() % 6;
            like.room = s.draw() % 8;
            like.fuel = s.draw() % 60;
            like.lit = s.draw() % 4 == 0 ? 1 : 0;
            s.things.add(Thing.of(kind, like));
            came++;
        }
        return came;
    }

    public int seed(int v) {
        int was = s.z;
        s.z = v;
        return was;
    }

    public int heat(int room) {
        return in(room, 0, 7) ? s.heatOf(room) : BAD;
    }

    public int heats(int room, int v) {
        if (!in(room, 0, 7) || !in(v, 0, 99)) {
            return BAD;
        }
        int was = s.heatOf(room);
        s.heat.put(room, v);
        return was;
    }

    public int door(int one, int other, int v) {
        if (!in(v, 0, 2)) {
            return BAD;
        }
        int was = doorTold(one, other);
        if (was != BAD) {
            s.doors.put(State.between(one, other), v);
        }
        return was;
    }

    public int doorTold(int one, int other) {
        if (!in(one, 0, 7) || !in(other, 0, 7) || one == other) {
            return BAD;
        }
        return s.doors.getOrDefault(State.between(one, other), 0);
    }

    public int rule(int what, int v) {
        if (!in(what, 0, 1) || !in(v, 0, what == 0 ? 100 : 9)) {
            return BAD;
        }
        int was = what == 0 ? s.wind : s.cool;
        s.wind = what == 0 ? v : s.wind;
        s.cool = what == 1 ? v : s.cool;
        return was;
    }

    public int visitor(int likes) {
        if (!in(likes, 0, 255)) {
            return BAD;
        }
        if (s.visitors.size() == 6) {
            return FULL;
        }
        s.visitors.add(likes);
        return s.visitors.size() - 1;
    }

    public int likes(int visitor, int set) {
        if (!in(visitor, 0, s.visitors.size() - 1) || !in(set, 0, 255)) {
            return BAD;
        }
        return s.visitors.set(visitor, set);
    }

    public int seats(int what) {
        if (!in(what, -1, s.visitors.size() - 1)) {
            return BAD;
        }
        List<Integer> best = new ArrayList<>();
        int most = ways(new ArrayList<>(), best, -1);
        return what < 0 ? most : best.get(what);
    }

    private int ways(List<Integer> way, List<Integer> best, int most) {
        if (way.size() == s.visitors.size()) {
            int seated = (int) way.stream().filter(r -> r != NONE).count();
            if (seated > most) {
                best.clear();
                best.addAll(way);
            }
            return Math.max(most, seated);
        }
        int now = most;
        for (int room = 0; room <= 8; room++) {
            boolean none = room == 8;
            if (none || (s.visitors.get(way.size()) >> room) % 2 == 1 && s.heatOf(room) < 30 && !way.contains(room)) {
                way.add(none ? NONE : room);
                now = ways(way, best, now);
                way.remove(way.size() - 1);
            }
        }
        return now;
    }

    public int way(int from, int to) {
        if (!in(from, 0, 7) || !in(to, 0, 7)) {
            return BAD;
        }
        List<Integer> rooms = new ArrayList<>(List.of(from));
        List<Integer> steps = new ArrayList<>(List.of(0));
        for (int i = 0; i < rooms.size(); i++) {
            for (int next = 0; next < 8; next++) {
                if (!rooms.contains(next) && doorTold(rooms.get(i), next) == 2) {
                    rooms.add(next);
                    steps.add(steps.get(i) + 1);
                }
            }
        }
        return rooms.contains(to) ? steps.get(rooms.indexOf(to)) : NONE;
    }

    public int minutes(int n) {
        if (!in(n, 1, 100)) {
            return BAD;
        }
        int was = s.burnt;
        for (int i = 0; i < n && s.minute < 9999; i++) {
            s.pass();
        }
        return s.burnt - was;
    }

    public int house(int what) {
        int[] all = {s.burnt, s.ashes, s.slams, s.lit(), s.allHeat(), s.visitors.size()};
        return in(what, 0, 5) ? all[what] : BAD;
    }

    public int behind(int n, int what) {
        if (!in(n, 0, 100) || !in(what, 0, 11)) {
            return BAD;
        }
        State t = s.passed(n);
        return what >= 4 ? t.heatOf(what - 4) : new int[] {t.burnt, t.ashes, t.lit(), t.allHeat()}[what];
    }

    public int out() {
        for (int k = 0; k <= 200; k++) {
            if (s.passed(k).lit() == 0) {
                return k;
            }
        }
        return NONE;
    }

    public int hot(int room) {
        if (!in(room, 0, 7)) {
            return BAD;
        }
        for (int k = 0; k <= 200; k++) {
            if (s.passed(k).heatOf(room) >= 50) {
                return k;
            }
        }
        return NONE;
    }

    public int shut(int n, int what) {
        if (!in(n, 1, 60) || !in(what, 0, 2)) {
            return BAD;
        }
        int[] best = null;
        for (Map.Entry<Integer, Integer> door : s.doors.entrySet()) {
            if (door.getValue() == 2) {
                State t = s.copied();
                t.doors.put(door.getKey(), 1);
                int burnt = t.passed(n).burnt;
                if (best == null || burnt < best[2]) {
                    best = new int[] {door.getKey() / 10, door.getKey() % 10, burnt};
                }
            }
        }
        return best == null ? NONE : best[what];
    }

    public int hired(int n, int what) {
        if (!in(n, 1, 60) || !in(what, 0, 1)) {
            return BAD;
        }
        int[] best = null;
        for (int wind = 0; wind <= 100; wind += 10) {
            State t = s.copied();
            t.wind = wind;
            int burnt = t.passed(n).burnt;
            if (best == null || burnt > best[1]) {
                best = new int[] {wind, burnt};
            }
        }
        return best[what];
    }

    public int becomes(int thing, int n, int what) {
        if (!hasThing(thing) || !in(n, 1, 60) || !in(what, 0, 1)) {
            return BAD;
        }
        int[] best = null;
        for (int kind = 0; kind < 6; kind++) {
            State t = s.copied();
            t.things.set(thing, Thing.of(kind, t.things.get(thing)));
            int burnt = t.passed(n).burnt;
            if (best == null || burnt < best[1]) {
                best = new int[] {kind, burnt};
            }
        }
        return best[what];
    }

    /** A place of a row: null, if it is no number. */
    static Integer numberAt(Object row, int k) {
        if (row instanceof short[]) {
            return (int) ((short[]) row)[k];
        }
        float v = ((float[]) row)[k];
        return Float.isNaN(v) ? null : (Integer) (int) v;
    }

    static int lengthOf(Object row) {
        return row instanceof short[] ? ((short[]) row).length : ((float[]) row).length;
    }

    public int began(int sheet) {
        if (!in(sheet, 0, 3)) {
            return BAD;
        }
        if (sheets[sheet] == null) {
            return NOTHING;
        }
        int set = 0;
        for (int i = 0; i < s.things.size(); i++) {
            State t = s.copied();
            for (Thing other : t.things) {
                other.lit = 0;
            }
            t.things.get(i).lit = 1;
            boolean can = t.things.get(i).fuel != 0;
            for (int k = 0; k < lengthOf(sheets[sheet]); k++) {
                Integer v = numberAt(sheets[sheet], k);
                can = can && (v == null || v == Integer.bitCount(t.passed(k).lit()));
            }
            set += can ? 1 << i : 0;
        }
        return set;
    }

    public int like(int sheet, int what) {
        if (!in(sheet, 0, 3) || !in(what, 0, 1)) {
            return BAD;
        }
        if (sheets[sheet] == null) {
            return NOTHING;
        }
        int[] best = null;
        for (int room = 0; room < 8; room++) {
            int sum = 0;
            for (int k = 0; k < lengthOf(sheets[sheet]); k++) {
                Integer v = numberAt(sheets[sheet], k);
                sum += v == null ? 0 : Math.abs(s.passed(k).heatOf(room) - v);
            }
            if (best == null || sum < best[1]) {
                best = new int[] {room, sum};
            }
        }
        return best[what];
    }

    public int fee() {
        int law = s.lawOf("fee");
        return law < 0 ? s.burnt : s.laws.get(law).root.value(Map.of("b", s.burnt, "a", s.ashes));
    }

    public int fine(int thing) {
        if (!hasThing(thing)) {
            return BAD;
        }
        int law = s.lawOf("fine");
        Thing t = s.things.get(thing);
        return law < 0 ? t.fuel : s.laws.get(law).root.value(Map.of("f", t.fuel, "r", t.room));
    }

    public int feed(int a, int b, int c) {
        if (tape.size() > 84) {
            return FULL;
        }
        for (int v : new int[] {a, b, c}) {
            for (byte one : java.nio.ByteBuffer.allocate(4).putInt(v).array()) {
                tape.add(one & 255);
            }
        }
        return tape.size();
    }

    public int trim(int n) {
        if (!in(n, 0, tape.size())) {
            return BAD;
        }
        tape = new ArrayList<>(tape.subList(0, n));
        return n;
    }

    public int text() {
        List<Integer> read = tape;
        tape = new ArrayList<>();
        try {
            Law law = new Parser(read).law();
            if (s.laws.size() == 14) {
                return FULL;
            }
            s.laws.add(law);
            return s.laws.size() - 1;
        } catch (Fault fault) {
            return -100 - fault.place;
        }
    }

    public int textTold(int text, int what) {
        if (!in(text, 0, s.laws.size() - 1) || !in(what, 0, 1)) {
            return BAD;
        }
        Law law = s.laws.get(text);
        return what == 1 ? law.operands : List.of("burn", "fee", "fine").indexOf(law.key);
    }

    public int why(int key) {
        if (!in(key, 0, 2)) {
            return BAD;
        }
        int law = s.lawOf(List.of("burn", "fee", "fine").get(key));
        return law < 0 ? NONE : law;
    }

    public int sheet(int sheet, int sort, int n) {
        if (!in(sheet, 0, 3) || !in(sort, -1, 1) || sort >= 0 && n > 24) {
            return BAD;
        }
        if (sort >= 0 && n < 0) {
            return SIZE;
        }
        sheets[sheet] = sort < 0 ? null : sort == 0 ? new short[n] : new float[n];
        return sort < 0 ? 0 : n;
    }

    public int mark(int sheet, int place, int v) {
        if (!in(sheet, 0, 3)) {
            return BAD;
        }
        Object row = sheets[sheet];
        if (row == null) {
            return NOTHING;
        }
        if (!in(place, 0, lengthOf(row) - 1)) {
            return INDEX;
        }
        if (row instanceof short[]) {
            if (v == NONE) {
                return KIND;
            }
            ((short[]) row)[place] = (short) v;
            return 1;
        }
        if (v != NONE && Math.abs((long) v) > 99999) {
            return BAD;
        }
        ((float[]) row)[place] = v == NONE ? Float.NaN : v;
        return 1;
    }

    public int pour(int sheet) {
        if (!in(sheet, 0, 3)) {
            return BAD;
        }
        if (sheets[sheet] == null) {
            return NOTHING;
        }
        int otherwise = 0;
        for (int i = 0; i < Math.min(s.things.size(), lengthOf(sheets[sheet])); i++) {
            Integer v = numberAt(sheets[sheet], i);
            if (v != null) {
                int was = s.things.get(i).fuel;
                s.things.get(i).fuel = v < 0 ? 0 : v > 99 ? 99 : v;
                otherwise += was == s.things.get(i).fuel ? 0 : 1;
            }
        }
        return otherwise;
    }

    public int reads(int sheet) {
        if (!in(sheet, 0, 3)) {
            return BAD;
        }
        if (sheets[sheet] == null) {
            return NOTHING;
        }
        for (int i = 0; i < lengthOf(sheets[sheet]); i++) {
            Integer v = numberAt(sheets[sheet], i);
            if (v != null && (i >= s.things.size() || s.things.get(i).room != v)) {
                return i;
            }
        }
        return NONE;
    }

    public int copy(int from, int place, int to, int at, int many) {
        if (!in(from, 0, 3) || !in(to, 0, 3)) {
            return BAD;
        }
        try {
            System.arraycopy(sheets[from], place, sheets[to], at, many);
            return many;
        } catch (NullPointerException e) {
            return NOTHING;
        } catch (ArrayStoreException e) {
            return KIND;
        } catch (IndexOutOfBoundsException e) {
            return INDEX;
        }
    }

    private static int sortOf(Object held) {
        return held == null ? 0 : held instanceof Thing ? 1 : held instanceof Integer ? 3 : 2;
    }

    public int lay(int slot, int thing, int k) {
        if (!in(slot, 0, 4) || !in(thing, 0, 3) || thing == 1 && !hasThing(k) || thing == 2 && !in(k, 0, 3)) {
            return BAD;
        }
        if (thing == 2 && sheets[k] == null) {
            return NOTHING;
        }
        int was = sortOf(slots[slot]);
        if (thing == 2) {
            slots[slot] = sheets[k] instanceof short[] ? ((short[]) sheets[k]).clone() : ((float[]) sheets[k]).clone();
        } else {
            slots[slot] = thing == 0 ? null : thing == 3 ? (Object) k : Thing.of(s.things.get(k).kind, s.things.get(k));
        }
        return was;
    }

    public int ask(int slot, int kind) {
        if (!in(slot, 0, 4) || !in(kind, 0, 5)) {
            return BAD;
        }
        if (slots[slot] == null) {
            return NOTHING;
        }
        return slots[slot] instanceof Thing && ((Thing) slots[slot]).is(kind) ? ((Thing) slots[slot]).worth() : KIND;
    }

    public int item(int slot, int place) {
        if (!in(slot, 0, 4)) {
            return BAD;
        }
        if (sortOf(slots[slot]) != 2) {
            return slots[slot] == null ? NOTHING : KIND;
        }
        if (!in(place, 0, lengthOf(slots[slot]) - 1)) {
            return INDEX;
        }
        Integer v = numberAt(slots[slot], place);
        return v == null ? KIND : v;
    }

    public int rest(int slot, int n) {
        if (!in(slot, 0, 4)) {
            return BAD;
        }
        if (sortOf(slots[slot]) != 3) {
            return slots[slot] == null ? NOTHING : KIND;
        }
        return n == 0 ? NO : (int) ((long) (Integer) slots[slot] % n);
    }

    public int tell(int v) {
        if (waiting.size() == 60) {
            return FULL;
        }
        waiting.add(v);
        return waiting.size();
    }

    /** The minutes told, of so many as there can be. */
    static List<Integer> minutesTold(State from, int n) {
        List<Integer> rows = new ArrayList<>();
        State t = from.copied();
        for (int i = 0; i < n && t.minute < 9999; i++) {
            t.pass();
            rows.add(t.burnt);
            rows.add(t.allHeat());
        }
        return rows;
    }

    public int check(int n) {
        List<Integer> told = waiting;
        waiting = new ArrayList<>();
        if (!in(n, 1, 30)) {
            return BAD;
        }
        if (image == null) {
            return NO;
        }
        List<Integer> rows = minutesTold(image, n);
        if (rows.equals(told)) {
            return 0;
        }
        int right = 0;
        while (right < rows.size() && right < told.size() && rows.get(right).equals(told.get(right))) {
            right++;
        }
        return 1 + right;
    }

    public int keep() {
        image = s.copied();
        return s.things.size();
    }

    public int back() {
        if (image == null) {
            return NO;
        }
        s = image.copied();
        return s.things.size();
    }

    public int count(int what) {
        int[] all = {
            s.things.size(), s.minute, s.wind, s.cool, s.visitors.size(), s.laws.size(), waiting.size(), tape.size(), s.z
        };
        return in(what, 0, 8) ? all[what] : BAD;
    }
}
