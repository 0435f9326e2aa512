/** Promises 30 to 34: feed, trim, text, textTold, why. */
final class EdgesOfTextCalls {
    private static final int BAD = CopiedFire.BAD;
    private static final int FULL = CopiedFire.FULL;
    private static final int NONE = CopiedFire.NONE;
    private static final int LOW = Integer.MIN_VALUE;
    private static final int BIG = Integer.MAX_VALUE;

    private EdgesOfTextCalls() {
    }

    // ---- 30 feed

    @Sentence(of = "Promise 30", says = "Twelve bytes come to THE TAPE, the highest of each number first: how many it has.")
    static void twelveBytesInOrder(Due due) {
        CopiedFire x = new CopiedFire();
        // "fee " "1234" "*2-9"
        due.is("twelve", x.feed(0x66656520, 0x31323334, 0x2a322d39), 12);
        due.is("a text", x.text(), 0);
        due.is("in order", x.fee(), 2459);
        // the highest bit of each byte is a bit as others are
        due.is("bytes of 255", x.feed(-1, LOW, 0), 12);
        due.is("a byte of 255 is a sign", x.text(), -100);
        for (int i = 1; i <= 8; i++) {
            due.is("up to 96", x.feed(0x20202020, 0x20202020, 0x20202020), 12 * i);
        }
        due.is("all are blanks", x.text(), -196);
    }

    @Sentence(of = "Promise 30", says = "FULL: it would have more than 96.")
    static void moreThan96(Due due) {
        Twins.refusedWhenFull(due, FULL, "feed", 0x31313131, 0x31313131, 0x31313131);
        CopiedFire x = Twins.full();
        x.trim(85);
        due.is("it would have 97", x.feed(0, 0, 0), FULL);
        due.is("85 still", x.count(7), 85);
        x.trim(84);
        due.is("it has 96", x.feed(0, 0, 0), 96);
    }

    // ---- 31 trim

    @Sentence(of = "Promise 31", says = "THE TAPE keeps its first n bytes: n.")
    static void keepsNoneAndAll(Due due) {
        CopiedFire x = new CopiedFire();
        due.is("none of none", x.trim(0), 0);
        Due.onTape(x, "fee 1234");
        due.is("all", x.trim(8), 8);
        due.is("all but the last", x.trim(7), 7);
        due.is("the first ones", x.text(), 0);
        due.is("are kept", x.fee(), 123);
        Due.onTape(x, "fee 1234");
        due.is("none", x.trim(0), 0);
        due.is("no byte", x.count(7), 0);
        due.is("what was cut is gone", x.feed(0x66656520, 0x37202020, 0x20202020), 12);
        due.is("a text", x.text(), 1);
        due.is("of new bytes", x.fee(), 7);
    }

    @Sentence(of = "Promise 31", says = "BAD.")
    static void trimIsBad(Due due) {
        int[][] wrong = {{-1}, {13}, {96}, {LOW}, {BIG}};
        for (int[] w : wrong) {
            Twins.refused(due, BAD, "trim", w);
        }
        Twins.refusedWhenFull(due, BAD, "trim", 97);
        Twins.leaves(due, CopiedFire::new, BAD, "trim", 1);
    }

    // ---- 32 text

    @Sentence(of = "Promise 32", says = "THE TAPE is a TEXT: its number.")
    static void theFirstAndTheLastText(Due due) {
        CopiedFire x = new CopiedFire();
        for (int i = 0; i < 14; i++) {
            due.is("its number", Due.text(x, "fine " + i), i);
        }
        due.is("the last", x.why(2), 13);
        due.is("there are as many", x.count(5), 14);
    }

    @Sentence(of = "Promise 32", says = "-100 less the place of its FAULT;")
    static void faultsFrom0To96(Due due) {
        for (int place = 0; place <= 96; place++) {
            CopiedFire x = new CopiedFire();
            String text = " ".repeat(place) + (place < 96 ? "!" : "");
            due.is("fault at " + place, Due.text(x, text), -100 - place);
        }
        Twins.leaves(due, () -> withTape(Twins.some(), ""), -100, "text");
        CopiedFire x = withTape(Twins.some(), "fee 1 1");
        CopiedFire y = withTape(Twins.some(), "");
        due.is("a fault", x.text(), -106);
        due.holds("changes nothing but the tape", Twins.houseOf(x).equals(Twins.houseOf(y)));
    }

    private static CopiedFire withTape(CopiedFire x, String text) {
        x.trim(0);
        Due.onTape(x, text);
        return x;
    }

    @Sentence(of = "Promise 32", says = "-100 less the place of its FAULT; FULL.")
    static void aTextTooMany(Due due) {
        CopiedFire x = Twins.full();
        CopiedFire y = withTape(Twins.full(), "");
        due.is("the fifteenth", x.text(), FULL);
        due.holds("changes nothing but the tape", Twins.houseOf(x).equals(Twins.houseOf(y)));
        CopiedFire z = withTape(Twins.full(), "fee 1)");
        due.is("the fault stands first", z.text(), -105);
    }

    // ---- 33 textTold, 34 why

    @Sentence(of = "Promise 33", says = "Of a TEXT: what 0 KEY (0 burn, 1 fee, 2 fine), 1 how many NUMBERS and NAMES it has.")
    static void oneAndManyNumbersAndNames(Due due) {
        CopiedFire x = new CopiedFire();
        for (int i = 0; i < 13; i++) {
            Due.text(x, i == 0 ? "burn n" : i == 1 ? "fee (!!b+9999)*a" : "fine r");
        }
        Due.text(x, "fee 1" + "+b".repeat(45));
        int[][] want = {{0, 0, 1}, {1, 1, 3}, {2, 2, 1}, {12, 2, 1}, {13, 1, 46}};
        for (int[] w : want) {
            due.is("key of " + w[0], x.textTold(w[0], 0), w[1]);
            due.is("numbers and names of " + w[0], x.textTold(w[0], 1), w[2]);
        }
    }

    @Sentence(of = "Promise 33", says = "BAD.")
    static void textToldIsBad(Due due) {
        int[][] wrong = {{-1, 0}, {2, 0}, {LOW, 0}, {BIG, 0}, {0, -1}, {0, 2}, {1, LOW}, {1, BIG}};
        for (int[] w : wrong) {
            Twins.refused(due, BAD, "textTold", w);
        }
        Twins.refusedWhenFull(due, BAD, "textTold", 14, 0);
        CopiedFire x = Twins.full();
        x.back();
        due.is("one that went with the image", x.textTold(13, 0), BAD);
    }

    @Sentence(of = "Promise 34", says = "The TEXT that counts for a KEY.")
    static void theFirstAndTheLastTextCount(Due due) {
        CopiedFire x = new CopiedFire();
        for (int i = 0; i < 14; i++) {
            Due.text(x, i == 0 ? "burn 1" : i == 13 ? "fine 1" : "fee 1");
        }
        due.is("burn", x.why(0), 0);
        due.is("fee", x.why(1), 12);
        due.is("fine", x.why(2), 13);
    }

    @Sentence(of = "Promise 34", says = "BAD;")
    static void whyIsBad(Due due) {
        int[][] wrong = {{-1}, {3}, {LOW}, {BIG}};
        for (int[] w : wrong) {
            Twins.refused(due, BAD, "why", w);
        }
    }

    @Sentence(of = "Promise 34", says = "BAD; NONE.")
    static void noTextCounts(Due due) {
        CopiedFire x = new CopiedFire();
        for (int key = 0; key <= 2; key++) {
            due.is("none at first", x.why(key), NONE);
        }
        Twins.refused(due, NONE, "why", 0);
        CopiedFire y = Twins.full();
        due.is("one counts", y.why(0), 13);
        y.back();
        due.is("none counts by the image", y.why(0), NONE);
    }
}
