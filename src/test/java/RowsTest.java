/** Promises 44 to 48: tell, check, keep, back, count. */
public final class RowsTest {
    private static final int BAD = CopiedFire.BAD;
    private static final int NO = CopiedFire.NO;
    private static final int FULL = CopiedFire.FULL;
    private static final Due due = new Due("RowsTest");

    public static void main(String[] args) {
        tells();
        checksRows();
        checksByTheImage();
        checksAtTheEnd();
        checkRefused();
        backToAll();
        whatAnImageLeavesOut();
        textsGoBack();
        againAndAgain();
        counts();
        due.end();
    }

    private static void tells() {
        CopiedFire x = new CopiedFire();
        for (int i = 1; i <= 60; i++) {
            due.is("tell " + i, x.tell(-i), i);
        }
        due.is("one more", x.tell(0), FULL);
        due.is("sixty", x.count(6), 60);
        x.check(1);
        due.is("the first of others", x.tell(5), 1);
    }

    private static CopiedFire fire() {
        CopiedFire x = new CopiedFire();
        x.seed(99);
        x.rule(0, 70);
        x.rule(1, 1);
        x.door(0, 1, 2);
        x.door(1, 2, 1);
        x.door(2, 3, 2);
        x.thing(0, 0, 70, 1);
        x.thing(3, 1, 60, 0);
        x.thing(2, 2, 99, 1);
        x.heats(5, 40);
        return x;
    }

    private static int[] rowsOf(CopiedFire y, int n) {
        int[] rows = new int[2 * n];
        for (int i = 0; i < n; i++) {
            y.minutes(1);
            rows[2 * i] = y.house(0);
            rows[2 * i + 1] = y.house(4);
        }
        return rows;
    }

    private static void tellAll(CopiedFire x, int[] rows, int many) {
        for (int i = 0; i < many; i++) {
            x.tell(rows[i]);
        }
    }

    private static void checksRows() {
        int[] spans = {1, 2, 7, 30};
        for (int n : spans) {
            int[] rows = rowsOf(fire(), n);
            CopiedFire x = fire();
            x.keep();
            tellAll(x, rows, 2 * n);
            due.is("all of " + n, x.check(n), 0);
            due.is("none wait", x.count(6), 0);
            tellAll(x, rows, 2 * n - 1);
            due.is("what waited before counts no more", x.check(n), 2 * n);
            for (int wrong = 0; wrong < 2 * n; wrong++) {
                x = fire();
                x.keep();
                int[] other = rows.clone();
                other[wrong]++;
                tellAll(x, other, 2 * n);
                due.is("place " + wrong + " of " + n, x.check(n), 1 + wrong);
                tellAll(x, rows, wrong);
                due.is("missing from " + wrong, x.check(n), 1 + wrong);
            }
            if (n < 30) {
                x = fire();
                x.keep();
                tellAll(x, rows, 2 * n);
                x.tell(0);
                due.is("one too many", x.check(n), 1 + 2 * n);
                tellAll(x, rows, 2 * n);
                tellAll(x, rowsOf(fire(), n + 1), 2);
                due.is("two too many", x.check(n), 1 + 2 * n);
            }
        }
    }

    private static void checksByTheImage() {
        int[] rows = rowsOf(fire(), 5);
        CopiedFire x = fire();
        x.keep();
        x.minutes(9);
        x.set(0, 2, 0);
        x.rule(1, 9);
        Due.text(x, "burn 1");
        tellAll(x, rows, 10);
        due.is("by the image, without the text", x.check(5), 0);
        due.is("the minute as it was", x.count(1), 9);
        due.is("the cooling as it was", x.count(3), 9);
        x.keep();
        tellAll(x, rows, 10);
        due.holds("by the new image", x.check(5) != 0);
        tellAll(x, rowsOf(x, 3), 6);
        due.is("its own", x.check(3), 0);
    }

    private static void checksAtTheEnd() {
        CopiedFire x = new CopiedFire();
        for (int i = 0; i < 99; i++) {
            x.minutes(100);
        }
        x.minutes(97);
        x.thing(0, 0, 99, 1);
        x.rule(0, 0);
        x.keep();
        int[] rows = {5, 3, 10, 6, 15, 9};
        tellAll(x, rows, 4);
        due.is("two are left", x.check(30), 0);
        tellAll(x, rows, 6);
        due.is("not three", x.check(30), 5);
        tellAll(x, rows, 2);
        due.is("both", x.check(3), 3);
        tellAll(x, rows, 2);
        due.is("one of two", x.check(1), 0);
        x.minutes(2);
        x.keep();
        due.is("none are left", x.check(1), 0);
        x.tell(15);
        due.is("one too many", x.check(1), 1);
    }

    private static void checkRefused() {
        CopiedFire x = new CopiedFire();
        x.tell(1);
        due.is("no image", x.check(1), NO);
        due.is("none wait", x.count(6), 0);
        x.tell(1);
        due.is("check(0), no image", x.check(0), BAD);
        due.is("none wait again", x.count(6), 0);
        x.keep();
        x.tell(1);
        due.is("check(31)", x.check(31), BAD);
        due.is("none wait still", x.count(6), 0);
        due.is("check(-1)", x.check(-1), BAD);
    }

    /** What an image keeps, by so few calls that an object bears three of them. */
    private static String allOf(CopiedFire x) {
        StringBuilder all = new StringBuilder();
        int[] kept = {0, 1, 2, 3, 4, 5, 8};
        for (int what : kept) {
            all.append(x.count(what)).append(' ');
        }
        for (int what = 0; what < 6; what++) {
            all.append(x.house(what)).append(' ');
        }
        for (int i = 0; i < 5; i++) {
            for (int what = 0; what < 8; what++) {
                all.append(x.told(i, what)).append(' ');
            }
            all.append(x.seats(i)).append(' ').append(x.fine(i)).append(' ').append(x.textTold(i, 0)).append(' ');
        }
        for (int one = 0; one < 8; one++) {
            all.append(x.heat(one)).append(' ');
            for (int other = one + 1; other < 8; other++) {
                all.append(x.doorTold(one, other)).append(' ');
            }
        }
        for (int key = 0; key < 3; key++) {
            all.append(x.why(key)).append(' ');
        }
        return all.append(x.fee()).append(' ').append(x.behind(40, 0)).append(' ').append(x.behind(40, 3)).toString();
    }

    private static void backToAll() {
        CopiedFire x = fire();
        due.is("no image", x.back(), NO);
        x.visitor(3);
        x.visitor(1);
        Due.text(x, "burn 3+n/4");
        Due.text(x, "fee b*2");
        x.minutes(11);
        due.is("three things", x.keep(), 3);
        String before = allOf(x);
        x.thing(5, 7, 7, 1);
        x.turns(0, 4);
        x.set(1, 1, 6);
        x.set(1, 2, 1);
        x.set(1, 3, 1);
        x.visitor(9);
        x.likes(0, 1);
        x.heats(6, 66);
        x.door(6, 7, 2);
        x.rule(0, 100);
        x.rule(1, 8);
        x.seed(5);
        for (int room = 0; room < 7; room++) {
            x.door(room, 7, 1);
        }
        Due.text(x, "burn 0");
        Due.text(x, "fee 0");
        Due.text(x, "fine 0");
        int slams = x.house(2);
        x.minutes(30);
        due.holds("doors slam", x.house(2) > slams);
        due.holds("it has changed", !before.equals(allOf(x)));
        due.is("back", x.back(), 3);
        due.holds("all is as the image", before.equals(allOf(x)));
    }

    private static void whatAnImageLeavesOut() {
        CopiedFire x = new CopiedFire();
        x.thing(1, 0, 20, 0);
        due.is("keep", x.keep(), 1);
        x.sheet(0, 0, 2);
        x.mark(0, 1, 6);
        x.lay(0, 3, 17);
        x.lay(1, 1, 0);
        x.tell(4);
        x.tell(5);
        x.feed(0x66656520, 0x31202020, 0x20202020);
        due.is("back", x.back(), 1);
        due.is("numbers wait", x.count(6), 2);
        due.is("the tape stays", x.count(7), 12);
        due.is("a number stays", x.rest(0, 10), 7);
        due.is("a thing stays", x.ask(1, 1), 24);
        x.lay(2, 2, 0);
        due.is("a sheet stays", x.item(2, 1), 6);
        due.is("and can be read", x.text(), 0);
    }

    private static void textsGoBack() {
        CopiedFire x = new CopiedFire();
        Due.text(x, "fee 1");
        x.keep();
        due.is("second", Due.text(x, "fee 2"), 1);
        due.is("fee 2", x.fee(), 2);
        x.back();
        due.is("fee 1", x.fee(), 1);
        due.is("no second text", x.textTold(1, 0), BAD);
        due.is("another second", Due.text(x, "fine 3"), 1);
        due.is("its key", x.textTold(1, 0), 2);
        due.is("the first counts", x.why(1), 0);
        due.is("fee 1 still", x.fee(), 1);
    }

    private static void againAndAgain() {
        CopiedFire x = fire();
        x.keep();
        int will = x.behind(40, 0);
        for (int i = 0; i < 4; i++) {
            x.minutes(7 + i);
            x.set(0, 2, i);
            due.is("back " + i, x.back(), 3);
            due.is("the same " + i, x.told(0, 2), 70);
            due.is("will be the same " + i, x.behind(40, 0), will);
        }
        x.minutes(5);
        due.is("kept anew", x.keep(), 3);
        x.thing(0, 0, 0, 0);
        due.is("back to five", x.back(), 3);
        due.is("the minute", x.count(1), 5);
    }

    private static void counts() {
        CopiedFire x = new CopiedFire();
        x.thing(0, 0, 0, 0);
        x.thing(0, 0, 0, 0);
        x.minutes(3);
        x.rule(0, 44);
        x.rule(1, 7);
        x.visitor(1);
        Due.text(x, "fee 1");
        x.tell(0);
        x.tell(0);
        x.tell(0);
        x.feed(0, 0, 0);
        x.seed(-123);
        int[] want = {2, 3, 44, 7, 1, 1, 3, 12, -123};
        for (int what = 0; what < want.length; what++) {
            due.is("count(" + what + ")", x.count(what), want[what]);
        }
        due.is("count(-1)", x.count(-1), BAD);
        due.is("count(9)", x.count(9), BAD);
    }
}
