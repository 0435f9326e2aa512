import java.util.Random;

/** Promises 20 to 29: behind, out, hot, shut, hired, becomes, began, like, fee, fine. */
public final class WhatWillBeTest {
    private static final int BAD = CopiedFire.BAD;
    private static final int NONE = CopiedFire.NONE;
    private static final int NOTHING = CopiedFire.NOTHING;
    private static final Due due = new Due("WhatWillBeTest");

    public static void main(String[] args) {
        behindAsItComes();
        behindTheLastMinute();
        whenAllIsOut();
        whenARoomIsHot();
        tiesAreTheLeast();
        for (int lot = 0; lot < 40; lot++) {
            bestDoor(lot, 1 + lot * 3 % 60);
            bestWind(lot, 1 + lot * 7 % 60);
            bestKind(lot, 1 + lot * 11 % 60);
            begins(lot);
            likest(lot);
        }
        wrongInputs();
        sheetsThatAreShort();
        fees();
        nothingChanges();
        due.end();
    }

    /** A fire by lot; the same lot gives the same fire, so that what is thought can be done on another one. */
    private static CopiedFire fire(int lot) {
        Random r = new Random(lot);
        CopiedFire x = new CopiedFire();
        x.seed(r.nextInt());
        x.deal(5 + r.nextInt(8));
        x.rule(0, r.nextInt(101));
        x.rule(1, r.nextInt(4));
        for (int i = 0; i < 10; i++) {
            int one = r.nextInt(8);
            x.door(one, (one + 1 + r.nextInt(7)) % 8, 1 + r.nextInt(2));
        }
        for (int room = 0; room < 8; room++) {
            x.heats(room, r.nextInt(60));
        }
        if (lot % 3 == 0) {
            Due.text(x, "burn 1+h/9+f/20");
        }
        x.minutes(1 + r.nextInt(3));
        return x;
    }

    private static int heatTogether(CopiedFire x) {
        int sum = 0;
        for (int room = 0; room < 8; room++) {
            sum += x.heat(room);
        }
        return sum;
    }

    private static void behindAsItComes() {
        int[] spans = {0, 1, 2, 13, 60, 99, 100};
        for (int lot = 0; lot < 12; lot++) {
            for (int n : spans) {
                CopiedFire x = fire(lot);
                CopiedFire y = fire(lot);
                if (n > 0) {
                    y.minutes(n);
                }
                String of = "lot " + lot + ": behind(" + n;
                due.is(of + ", 0)", x.behind(n, 0), y.house(0));
                due.is(of + ", 1)", x.behind(n, 1), y.house(1));
                due.is(of + ", 2)", x.behind(n, 2), y.house(3));
                due.is(of + ", 3)", x.behind(n, 3), heatTogether(y));
                for (int room = 0; room < 8; room++) {
                    due.is(of + ", " + (4 + room) + ")", x.behind(n, 4 + room), y.heat(room));
                }
            }
        }
    }

    private static CopiedFire late() {
        CopiedFire x = new CopiedFire();
        for (int i = 0; i < 99; i++) {
            x.minutes(100);
        }
        x.minutes(90);
        x.rule(1, 0);
        return x;
    }

    private static void behindTheLastMinute() {
        CopiedFire x = late();
        Due.text(x, "burn n>9999");
        x.thing(0, 0, 99, 1);
        due.is("the minute", x.count(1), 9990);
        due.is("as far as 9999", x.behind(10, 0), 0);
        due.is("on and on", x.behind(100, 0), 90);
        due.is("out", x.out(), 109);
        due.is("hot", x.hot(0), 60);
        due.is("hired", x.hired(60, 1), 50);
        due.is("becomes damp, half of 1 being 0", x.becomes(0, 60, 0), 2);
        x.door(0, 1, 2);
        due.is("shut", x.shut(60, 2), 50);
        x.sheet(0, 0, 24);
        for (int k = 0; k < 24; k++) {
            x.mark(0, k, Math.max(0, k - 10));
        }
        x.door(0, 1, 0);
        due.is("like", x.like(0, 1), 0);
    }

    private static void whenAllIsOut() {
        CopiedFire x = new CopiedFire();
        due.is("nothing there", x.out(), 0);
        x.rule(0, 0);
        x.thing(0, 0, 12, 1);
        due.is("three minutes", x.out(), 3);
        x.thing(0, 0, 8, 0);
        x.heats(0, 17);
        due.is("the second catches first behind one minute", x.out(), 3);
        x.set(1, 2, 28);
        due.is("and burns six more", x.out(), 7);
        x.thing(5, 0, 1, 1);
        due.is("a blank never ends", x.out(), NONE);
        CopiedFire y = new CopiedFire();
        y.thing(0, 0, 99, 1);
        Due.text(y, "burn (n-n/2*2)&n>2");
        due.is("200", y.out(), 200);
        Due.text(y, "burn (n+1-(n+1)/2*2)&n>3");
        due.is("201 is too late", y.out(), NONE);
    }

    private static void whenARoomIsHot() {
        CopiedFire x = new CopiedFire();
        x.rule(0, 0);
        x.heats(3, 50);
        due.is("now", x.hot(3), 0);
        x.heats(3, 49);
        due.is("never", x.hot(3), NONE);
        x.thing(0, 3, 99, 1);
        due.is("49 and 5, less 2", x.hot(3), 1);
        x.heats(3, 46);
        due.is("49, 52", x.hot(3), 2);
        x.rule(1, 0);
        due.is("51", x.hot(3), 1);
        x.heats(3, 49);
        Due.text(x, "burn n=199");
        due.is("200", x.hot(3), 200);
        Due.text(x, "burn n=200");
        due.is("201 is too late", x.hot(3), NONE);
        due.is("hot(-1)", x.hot(-1), BAD);
        due.is("hot(8)", x.hot(8), BAD);
    }

    private static void tiesAreTheLeast() {
        CopiedFire x = new CopiedFire();
        x.door(6, 7, 2);
        x.door(2, 5, 2);
        x.door(4, 2, 2);
        x.door(0, 1, 1);
        due.is("the least lesser room", x.shut(1, 0), 2);
        due.is("the least other one", x.shut(1, 1), 4);
        due.is("no burnt", x.shut(1, 2), 0);
        due.is("the least wind", x.hired(60, 0), 0);
        x.thing(4, 0, 0, 0);
        due.is("the least kind", x.becomes(0, 60, 0), 0);
        x.sheet(0, 1, 3);
        due.is("the least room", x.like(0, 0), 0);
        due.is("no difference", x.like(0, 1), 0);
    }

    private static void bestDoor(int lot, int n) {
        int best = -1;
        int least = 0;
        for (int one = 0; one < 8; one++) {
            for (int other = one + 1; other < 8; other++) {
                CopiedFire y = fire(lot);
                if (y.doorTold(one, other) == 2) {
                    y.door(one, other, 1);
                    y.minutes(n);
                    if (best < 0 || y.house(0) < least) {
                        best = one * 8 + other;
                        least = y.house(0);
                    }
                }
            }
        }
        CopiedFire x = fire(lot);
        due.is("lot " + lot + ": shut, one", x.shut(n, 0), best < 0 ? NONE : best / 8);
        due.is("lot " + lot + ": shut, other", x.shut(n, 1), best < 0 ? NONE : best % 8);
        due.is("lot " + lot + ": shut, burnt", x.shut(n, 2), best < 0 ? NONE : least);
    }

    private static void bestWind(int lot, int n) {
        int best = -1;
        int most = -1;
        for (int wind = 0; wind <= 100; wind += 10) {
            CopiedFire y = fire(lot);
            y.rule(0, wind);
            y.minutes(n);
            if (y.house(0) > most) {
                best = wind;
                most = y.house(0);
            }
        }
        CopiedFire x = fire(lot);
        due.is("lot " + lot + ": hired, wind", x.hired(n, 0), best);
        due.is("lot " + lot + ": hired, burnt", x.hired(n, 1), most);
    }

    private static void bestKind(int lot, int n) {
        CopiedFire x = fire(lot);
        int thing = lot % x.count(0);
        int best = -1;
        int least = Integer.MAX_VALUE;
        for (int kind = 0; kind < 6; kind++) {
            CopiedFire y = fire(lot);
            y.turns(thing, kind);
            y.minutes(n);
            if (y.house(0) < least) {
                best = kind;
                least = y.house(0);
            }
        }
        due.is("lot " + lot + ": becomes, kind", x.becomes(thing, n, 0), best);
        due.is("lot " + lot + ": becomes, burnt", x.becomes(thing, n, 1), least);
    }

    private static int litBehind(int lot, int thing, int k) {
        CopiedFire y = fire(lot);
        for (int i = 0; i < y.count(0); i++) {
            y.set(i, 3, i == thing ? 1 : 0);
        }
        if (k > 0) {
            y.minutes(k);
        }
        return Integer.bitCount(y.house(3));
    }

    private static void begins(int lot) {
        CopiedFire x = fire(lot);
        int n = x.count(0);
        int cause = lot % n;
        int places = 1 + lot % 9;
        x.sheet(1, 1, places);
        for (int k = 0; k < places; k++) {
            x.mark(1, k, k % 4 == 2 ? NONE : litBehind(lot, cause, k));
        }
        int want = 0;
        for (int i = 0; i < n; i++) {
            boolean can = x.told(i, 2) > 0;
            for (int k = 0; k < places; k++) {
                can = can && (k % 4 == 2 || litBehind(lot, i, k) == litBehind(lot, cause, k));
            }
            want |= can ? 1 << i : 0;
        }
        due.is("lot " + lot + ": began", x.began(1), want);
    }

    private static void likest(int lot) {
        CopiedFire x = fire(lot);
        Random r = new Random(lot + 1000);
        int places = 1 + lot % 24;
        int room = r.nextInt(8);
        int[] sums = new int[8];
        x.sheet(2, 1, places);
        for (int k = 0; k < places; k++) {
            CopiedFire y = fire(lot);
            if (k > 0) {
                y.minutes(k);
            }
            int v = k % 5 == 3 ? NONE : y.heat(room) + r.nextInt(21) - 10;
            x.mark(2, k, v);
            for (int i = 0; i < 8; i++) {
                sums[i] += v == NONE ? 0 : Math.abs(y.heat(i) - v);
            }
        }
        int best = 0;
        for (int i = 0; i < 8; i++) {
            best = sums[i] < sums[best] ? i : best;
        }
        due.is("lot " + lot + ": like, room", x.like(2, 0), best);
        due.is("lot " + lot + ": like, differences", x.like(2, 1), sums[best]);
    }

    private static void wrongInputs() {
        CopiedFire x = new CopiedFire();
        int[][] wrong = {{-1, 0}, {101, 0}, {0, -1}, {0, 12}};
        for (int[] w : wrong) {
            due.is("behind(" + w[0] + ", " + w[1] + ")", x.behind(w[0], w[1]), BAD);
        }
        int[][] spans = {{0, 0}, {61, 0}, {-1, 0}, {1, -1}, {1, 3}};
        for (int[] w : spans) {
            due.is("shut(" + w[0] + ", " + w[1] + ")", x.shut(w[0], w[1]), BAD);
            due.is("hired(" + w[0] + ", " + w[1] + ")", x.hired(w[0], w[1]), BAD);
        }
        due.is("hired(1, 2)", x.hired(1, 2), BAD);
        due.is("shut(60, 2)", x.shut(60, 2), NONE);
        due.is("hired(60, 1)", x.hired(60, 1), 0);
        due.is("becomes of no thing", x.becomes(0, 1, 0), BAD);
        x.thing(0, 0, 10, 1);
        int[][] becomes = {{-1, 1, 0}, {1, 1, 0}, {0, 0, 0}, {0, 61, 0}, {0, 1, -1}, {0, 1, 2}};
        for (int[] w : becomes) {
            due.is("becomes(" + w[0] + ", " + w[1] + ", " + w[2] + ")", x.becomes(w[0], w[1], w[2]), BAD);
        }
        due.is("becomes(0, 60, 0)", x.becomes(0, 60, 0), 5);
        due.is("became nothing", x.told(0, 0), 0);
        int[] sheets = {-1, 4};
        for (int sheet : sheets) {
            due.is("began(" + sheet + ")", x.began(sheet), BAD);
            due.is("like(" + sheet + ", 0)", x.like(sheet, 0), BAD);
        }
        due.is("began(3)", x.began(3), NOTHING);
        due.is("like(3, 1)", x.like(3, 1), NOTHING);
        due.is("like(3, 2)", x.like(3, 2), BAD);
        due.is("like(3, -1)", x.like(3, -1), BAD);
    }

    private static void sheetsThatAreShort() {
        CopiedFire x = new CopiedFire();
        x.rule(0, 0);
        x.thing(0, 0, 20, 0);
        x.thing(0, 0, 0, 1);
        x.thing(3, 0, 20, 1);
        x.sheet(0, 0, 0);
        due.is("no places: all with fuel", x.began(0), 0b101);
        due.is("no places: the least room", x.like(0, 0), 0);
        due.is("no places: no differences", x.like(0, 1), 0);
        x.sheet(0, 0, 1);
        due.is("none is lit with none of them", x.began(0), 0);
        x.mark(0, 0, 1);
        due.is("one is with each", x.began(0), 0b101);
        x.sheet(0, 0, 3);
        x.mark(0, 0, 1);
        x.mark(0, 1, 1);
        x.mark(0, 2, 2);
        // by 0 it is 3, then 6 hot, from which the copy catches; by 2 it is 15, then 22, and the copy is out
        due.is("the thing lights the copy behind two minutes", x.began(0), 0b001);
        x.mark(0, 2, 1);
        due.is("the copy lights the thing, but is out itself", x.began(0), 0b100);
        x.mark(0, 1, -1);
        due.is("shorts below 0 are no numbers of things", x.began(0), 0);
        due.is("the lot is not changed", x.house(3), 0b110);
        x.heats(7, 10);
        x.sheet(1, 1, 2);
        x.mark(1, 0, 9);
        x.mark(1, 1, -5);
        due.is("1 and 13, signs left out", x.like(1, 1), 14);
        due.is("by room 7; the cold ones have 9 and 5", x.like(1, 0), 1);
    }

    private static void fees() {
        CopiedFire x = new CopiedFire();
        x.rule(0, 0);
        x.thing(0, 6, 12, 1);
        x.thing(1, 3, 40, 0);
        due.is("fine without a text", x.fine(1), 40);
        x.minutes(3);
        due.is("fee without a text", x.fee(), 12);
        Due.text(x, "fee b*100+a");
        due.is("fee by its text", x.fee(), 1201);
        Due.text(x, "fine f*100+r");
        due.is("fine by its text", x.fine(1), 4003);
        due.is("fine of another", x.fine(0), 6);
        Due.text(x, "fee 0-a");
        due.is("the fee told last, and not held", x.fee(), -1);
        CopiedFire y = new CopiedFire();
        y.thing(0, 4, 9, 0);
        Due.text(y, "fine r");
        due.is("fine by the first text of all", y.fine(0), 4);
        due.is("fine(-1)", x.fine(-1), BAD);
        due.is("fine(2)", x.fine(2), BAD);
    }

    private static void nothingChanges() {
        CopiedFire x = fire(3);
        x.sheet(0, 0, 5);
        String before = allOf(x);
        x.behind(100, 0);
        x.out();
        x.hot(0);
        x.shut(60, 0);
        x.hired(60, 0);
        x.becomes(0, 60, 0);
        x.began(0);
        x.like(0, 0);
        x.fee();
        x.fine(0);
        due.holds("it is only thought", before.equals(allOf(x)));
    }

    private static String allOf(CopiedFire x) {
        StringBuilder all = new StringBuilder();
        for (int what = 0; what <= 8; what++) {
            all.append(x.count(what)).append(' ').append(x.house(what)).append(' ');
        }
        for (int i = 0; i < x.count(0); i++) {
            for (int what = 0; what < 8; what++) {
                all.append(x.told(i, what)).append(' ');
            }
        }
        for (int one = 0; one < 8; one++) {
            all.append(x.heat(one)).append(' ');
            for (int other = 0; other < 8; other++) {
                all.append(x.doorTold(one, other)).append(' ');
            }
        }
        return all.toString();
    }
}
