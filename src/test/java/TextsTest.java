/** Promises 30 to 34: feed, trim, text, textTold, why; and what texts are and give. */
public final class TextsTest {
    private static final int BAD = CopiedFire.BAD;
    private static final int FULL = CopiedFire.FULL;
    private static final int NONE = CopiedFire.NONE;
    private static final Due due = new Due("TextsTest");

    public static void main(String[] args) {
        feeds();
        trims();
        bytesInOrder();
        faults();
        anyOtherByte();
        nesting();
        theTapeIsUsedUp();
        textsAreFull();
        toldOfTexts();
        whichCounts();
        values();
        valuesByNames();
        due.end();
    }

    private static void feeds() {
        CopiedFire x = new CopiedFire();
        for (int i = 1; i <= 8; i++) {
            due.is("feed " + i, x.feed(0, -1, 7), 12 * i);
        }
        due.is("the ninth", x.feed(0, 0, 0), FULL);
        due.is("as it was", x.count(7), 96);
        due.is("trim(85)", x.trim(85), 85);
        due.is("it would have 97", x.feed(0, 0, 0), FULL);
        due.is("trim(84)", x.trim(84), 84);
        due.is("it has 96", x.feed(0, 0, 0), 96);
    }

    private static void trims() {
        CopiedFire x = new CopiedFire();
        due.is("nothing of nothing", x.trim(0), 0);
        due.is("more than there is", x.trim(1), BAD);
        x.feed(1, 2, 3);
        due.is("trim(13)", x.trim(13), BAD);
        due.is("trim(-1)", x.trim(-1), BAD);
        due.is("trim(12)", x.trim(12), 12);
        due.is("trim(5)", x.trim(5), 5);
        due.is("trim(6)", x.trim(6), BAD);
        due.is("five", x.count(7), 5);
    }

    private static void bytesInOrder() {
        CopiedFire x = new CopiedFire();
        // "fee 1234*2-9"
        x.feed(0x66656520, 0x31323334, 0x2a322d39);
        due.is("text()", x.text(), 0);
        due.is("fee()", x.fee(), 2459);
        x.feed(0x66656520, 0x31303030, 0);
        x.trim(8);
        x.feed(0x2b202031, 0x20202020, 0x20202020);
        due.is("over two feeds", x.text(), 1);
        due.is("fee() again", x.fee(), 1001);
    }

    /** Each text with the place of its fault; -1: it has none. */
    private static void faults() {
        Object[][] rows = {
            {"", 0}, {" ", 1}, {"b", 0}, {"bur", 0}, {"xee 1", 0}, {"fex 1", 0}, {"fxe 1", 0}, {"burnt 1", 0}, {"  fees 1", 2}, {"Burn 1", 0}, {"1", 0},
            {"(burn 1)", 0}, {"burn", 4}, {"fee  ", 5}, {"fee1", 3}, {"fee(1)", -1}, {"fee!1", -1}, {"feeb", 0},
            {"fee b", -1}, {" fee  b ", -1}, {"fee f", 4}, {"burn b", 5}, {"fine h", 5}, {"fine f", -1},
            {"fine r", -1}, {"burn f", -1}, {"burn h", -1}, {"burn n", -1}, {"fee a", -1}, {"fine n", 5},
            {"fee bb", 4}, {"fee fee", 4}, {"fee b b", 6}, {"fee b1", 5}, {"fee 1b", 5}, {"fee 1 b", 6},
            {"fee 0", -1}, {"fee 9999", -1}, {"fee 10000", 4}, {"fee 00001", 4}, {"fee 0000", -1},
            {"fee 1+10000", 6}, {"fee 1 2", 6}, {"fee 1+", 6}, {"fee 1 + ", 8}, {"fee +1", 4}, {"fee -1", 4},
            {"fee 1--1", 6}, {"fee 1+!1", -1}, {"fee !", 5}, {"fee !!0", -1}, {"fee 1!", 5}, {"fee ()", 5},
            {"fee (1", 6}, {"fee (1))", 7}, {"fee )", 4}, {"fee (1)(2)", 7}, {"fee (1) 2", 8}, {"fee (1)b", 7},
            {"fee 1<2", -1}, {"fee 1<2<3", 7}, {"fee 1=2=3", 7}, {"fee 1>2=3", 7}, {"fee 1<2&3>4", -1},
            {"fee 1<2|3=4|5", -1}, {"fee (1<2)<3", -1}, {"fee 1<", 6}, {"fee 1<=2", 6}, {"fee 1==2", 6},
            {"fee 1||2", 6}, {"fee 1&&2", 6}, {"fee 1|", 6}, {"fee 1 & ", 8}, {"fee 1*", 6}, {"fee 1*/2", 6},
            {"fee 1%2", 5}, {"fee b.a", 5}, {"fee B", 4}, {"fee\t1", 3}, {"fee 1\n", 5}, {"fee,1", 3},
            {"fee [1]", 4}, {"fee 1<2+3&b*a-!a|(b)", -1}, {"fee b+ (a *2 ) ", -1}, {"fee(b)a", 6}, {"fee (a 1)", 7},
            {"fee 1 (", 6}, {"fee 12345b", 4}, {"fee z", 4}, {"fee `", 4}, {"fee {", 4}, {"fee /", 4}, {"fee :", 4}
        };
        for (Object[] row : rows) {
            CopiedFire x = new CopiedFire();
            String text = (String) row[0];
            int fault = (Integer) row[1];
            due.is("'" + text + "'", Due.text(x, text), fault < 0 ? 0 : -100 - fault);
            due.is("'" + text + "': texts", x.count(5), fault < 0 ? 1 : 0);
        }
    }

    private static void anyOtherByte() {
        String goOn = " <=>+-*/&|";
        for (int b = 0; b < 256; b++) {
            CopiedFire x = new CopiedFire();
            String text = "fee 1" + (char) b;
            boolean digit = b >= '0' && b <= '9';
            int want = b == ' ' || digit ? 0 : goOn.indexOf((char) b) >= 0 ? -106 : -105;
            due.is("byte " + b + " behind a number", Due.text(x, text), want);
        }
    }

    private static String times(String part, int n) {
        return part.repeat(n);
    }

    private static void nesting() {
        CopiedFire x = new CopiedFire();
        due.is("eight (", Due.text(x, "fee " + times("(", 8) + "7" + times(")", 8)), 0);
        due.is("seven", x.fee(), 7);
        due.is("nine (", Due.text(x, "fee " + times("(", 9) + "7" + times(")", 9)), -112);
        due.is("nine ( one behind the other", Due.text(x, "fee " + times("(1)+", 9) + "1"), 1);
        due.is("ten", x.fee(), 10);
        due.is("eight !", Due.text(x, "fee " + times("!", 8) + "5"), 2);
        due.is("true", x.fee(), 1);
        due.is("nine !", Due.text(x, "fee " + times("!", 9) + "5"), -112);
        due.is("nine ! one behind the other", Due.text(x, "fee " + times("!0+", 9) + "0"), 3);
        due.is("nine", x.fee(), 9);
        due.is("eight of both", Due.text(x, "fee " + times("!(", 8) + "0" + times(")", 8)), 4);
        due.is("false", x.fee(), 0);
        due.is("a ninth ! within", Due.text(x, "fee " + times("!(", 8) + "!0" + times(")", 8)), -120);
        due.is("a ninth ( within", Due.text(x, "fee " + times("!(", 8) + "(0)" + times(")", 8)), -120);
        due.is("! is open as far as its piece goes", Due.text(x, "fee " + times("!(", 7) + "!0+!1" + times(")", 7)), 5);
        due.is("(s that are shut count no more", Due.text(x, "fee " + times("(", 7) + "(1)+(1)" + times(")", 7)), 6);
        due.is("two", x.fee(), 2);
        due.is("96 bytes", Due.text(x, "fee 1" + times("+1", 45) + " "), 7);
        due.is("46", x.fee(), 46);
        due.is("the end of 96 bytes", Due.text(x, "fee 1" + times("+1", 45) + "+"), -196);
    }

    private static void theTapeIsUsedUp() {
        CopiedFire x = new CopiedFire();
        Due.onTape(x, "fee b");
        due.is("five bytes", x.count(7), 5);
        due.is("a text", x.text(), 0);
        due.is("none", x.count(7), 0);
        Due.onTape(x, "fee f");
        due.is("a fault", x.text(), -104);
        due.is("none again", x.count(7), 0);
        due.is("nothing to read", x.text(), -100);
    }

    private static void textsAreFull() {
        CopiedFire x = new CopiedFire();
        for (int i = 0; i < 14; i++) {
            due.is("text " + i, Due.text(x, "fee " + i), i);
        }
        due.is("the fifteenth", Due.text(x, "fee 99"), FULL);
        due.is("the tape is used up", x.count(7), 0);
        due.is("the fifteenth, with a fault", Due.text(x, "fee 99)"), -106);
        due.is("fourteen", x.count(5), 14);
        due.is("the last of them counts", x.fee(), 13);
    }

    private static void toldOfTexts() {
        CopiedFire x = new CopiedFire();
        due.is("no text", x.textTold(0, 0), BAD);
        String[] texts = {"burn n", "fee 1+(b*2)-!a", "fine f", "fee b+b+b+0000"};
        int[] keys = {0, 1, 2, 1};
        int[] operands = {1, 4, 1, 4};
        for (int i = 0; i < texts.length; i++) {
            Due.text(x, texts[i]);
            due.is(texts[i] + ": key", x.textTold(i, 0), keys[i]);
            due.is(texts[i] + ": numbers and names", x.textTold(i, 1), operands[i]);
        }
        int[][] wrong = {{-1, 0}, {4, 0}, {0, -1}, {0, 2}};
        for (int[] w : wrong) {
            due.is("textTold(" + w[0] + ", " + w[1] + ")", x.textTold(w[0], w[1]), BAD);
        }
    }

    private static void whichCounts() {
        CopiedFire x = new CopiedFire();
        Due.text(x, "fine 1");
        Due.text(x, "burn 2");
        Due.text(x, "fine 3");
        due.is("why(0)", x.why(0), 1);
        due.is("why(1)", x.why(1), NONE);
        due.is("why(2)", x.why(2), 2);
        Due.text(x, "fine 4)");
        due.is("a fault counts for nothing", x.why(2), 2);
        due.is("why(-1)", x.why(-1), BAD);
        due.is("why(3)", x.why(3), BAD);
        x.thing(0, 0, 50, 0);
        due.is("fine", x.fine(0), 3);
        due.is("burn", x.told(0, 4), 2);
    }

    private static void values() {
        Object[][] rows = {
            {"7", 7}, {"0012", 12}, {"7-2-1", 4}, {"7-(2-1)", 6}, {"2+3*4", 14}, {"(2+3)*4", 20}, {"7/2", 3},
            {"(0-7)/2", -3}, {"7/2*2", 6}, {"100/10/5", 2}, {"5/0", 0}, {"0/0", 0}, {"5*0/0+1", 1}, {"!5", 0},
            {"!0", 1}, {"!!7", 1}, {"!0+1", 2}, {"!1*5+3", 3}, {"3<4", 1}, {"4<4", 0}, {"4=4", 1}, {"4=5", 0},
            {"5>4", 1}, {"4>4", 0}, {"1+1=2", 1}, {"2=1+1", 1}, {"5|0", 1}, {"0|0", 0}, {"0|7", 1}, {"5&3", 1},
            {"5&0", 0}, {"0&5", 0}, {"1|1&0", 1}, {"(1|1)&0", 0}, {"1&2|0", 1}, {"2<3&3<4", 1},
            {"9999*9999*9999", (int) (9999L * 9999 * 9999)}, {"0-1<0", 1}, {"0|0-4", 1}, {"8/(1-1)&1", 0},
            {"6-4/2+1", 5}, {"2*3-4*5", -14}, {"1=1+0&2", 1}, {"!(1=2)*6", 6}, {"0-9999*9999*22/1", 0 - 9999 * 9999 * 22},
            {"(0-8)/(0-3)", 2}, {"8/(0-3)", -2}
        };
        for (Object[] row : rows) {
            CopiedFire x = new CopiedFire();
            String text = (String) row[0];
            due.is(text, Due.text(x, "fee " + text), 0);
            due.is(text, x.fee(), (Integer) row[1]);
        }
        CopiedFire x = new CopiedFire();
        // 8192 * 8192 * 32 is -2147483648, which by -1 is itself
        due.is("least", Due.text(x, "fee 8192*8192*32/(0-1)"), 0);
        due.is("the least int by -1", x.fee(), Integer.MIN_VALUE);
    }

    private static void valuesByNames() {
        CopiedFire x = new CopiedFire();
        x.rule(0, 0);
        x.thing(0, 5, 30, 1);
        x.thing(0, 6, 4, 1);
        x.minutes(2);
        due.is("fee", Due.text(x, "fee b-a*100"), 0);
        due.is("14 burnt, 1 to ashes", x.fee(), -86);
        due.is("fine", Due.text(x, "fine r*100-f"), 1);
        due.is("room 5, fuel 20", x.fine(0), 480);
        due.is("room 6, no fuel", x.fine(1), 600);
        due.is("burn", Due.text(x, "burn f+h*2+n"), 2);
        due.is("20 and 2 * 6 and 2", x.told(0, 4), 34);
        due.is("0 and 0 and 2: room 6 is cold", x.told(1, 4), 2);
    }
}
