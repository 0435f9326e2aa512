/** TEXTS, their words, their FAULTS and what they give (Terms 4). */
final class EdgesOfTexts {
    private static final int BAD = CopiedFire.BAD;
    private static final int FULL = CopiedFire.FULL;
    private static final int LAST_BYTE = 95;

    private EdgesOfTexts() {
    }

    /** Each text has its fault at that place. */
    private static void faults(Due due, Object... rows) {
        for (int i = 0; i < rows.length; i += 2) {
            String text = (String) rows[i];
            CopiedFire x = new CopiedFire();
            due.is("'" + text + "'", Due.text(x, text), -100 - (Integer) rows[i + 1]);
            due.is("'" + text + "' is no text", x.count(5), 0);
        }
    }

    private static void areTexts(Due due, String... texts) {
        for (String text : texts) {
            due.is("'" + text + "'", Due.text(new CopiedFire(), text), 0);
        }
    }

    /** Each E is a text of fee, and gives that. */
    private static void gives(Due due, Object... rows) {
        for (int i = 0; i < rows.length; i += 2) {
            String text = "fee " + rows[i];
            CopiedFire x = new CopiedFire();
            due.is("'" + text + "'", Due.text(x, text), 0);
            due.is("what '" + text + "' gives", x.fee(), (Integer) rows[i + 1]);
        }
    }

    @Sentence(of = "Terms 4", says = "TEXTS, 14 at most, numbered from 0,")
    static void fourteenTexts(Due due) {
        CopiedFire x = new CopiedFire();
        for (int i = 0; i < 14; i++) {
            due.is("before there is one", x.textTold(i, 0), BAD);
            due.is("text", Due.text(x, "fee " + i), i);
        }
        due.is("the fifteenth", Due.text(x, "fee 99"), FULL);
        due.is("there are fourteen", x.count(5), 14);
        due.is("the last one counts still", x.fee(), 13);
    }

    @Sentence(of = "Terms 4", says = "from THE TAPE (96 bytes at most;")
    static void ninetySixBytes(Due due) {
        CopiedFire x = new CopiedFire();
        String longest = "fee 1" + "+1".repeat(45) + "0";
        Due.onTape(x, longest);
        due.is("its bytes", x.count(7), 96);
        due.is("one more would be too many", x.feed(0, 0, 0), FULL);
        due.is("a text of 96 bytes", x.text(), 0);
        due.is("what it gives", x.fee(), 55);
    }

    @Sentence(of = "Terms 4", says = "an act that reads it uses it up, whatever it answers):")
    static void theTapeIsUsedUp(Due due) {
        CopiedFire x = Twins.full();
        due.is("96 bytes", x.count(7), 96);
        due.is("full", x.text(), FULL);
        due.is("used up by FULL", x.count(7), 0);
        Due.onTape(x, "fee )");
        due.is("a fault", x.text(), -104);
        due.is("used up by a fault", x.count(7), 0);
        x.back();
        Due.onTape(x, "fee 1");
        due.is("a text", x.text(), 13);
        due.is("used up by a text", x.count(7), 0);
        due.is("nothing is left to read", x.text(), -100);
    }

    @Sentence(of = "Terms 4", says = "KEY E. KEY: burn | fee | fine.")
    static void threeKeys(Due due) {
        areTexts(due, "burn 1", "fee 1", "fine 1");
        faults(due, "", 0, "1", 0, "b 1", 0, "bur 1", 0, "burns 1", 0, "fe 1", 0, "feed 1", 0, "fin 1", 0, "fines 1", 0,
            "Burn 1", 0, "fee", 3, "burn fee 1", 5, "fee 1 fee 1", 6, "(fee 1)", 0, "!fee 1", 0);
    }

    // ---- E

    @Sentence(of = "Terms 4", says = "E, the loosest first: OR: AND { | AND };")
    static void orIsTheLoosest(Due due) {
        gives(due, "0|0", 0, "0|2", 1, "2|0", 1, "0|0|0|3", 1, "1|1&0", 1, "0&1|1", 1, "1|0=0", 1, "2|1=3", 1);
        faults(due, "fee |1", 4, "fee 1|", 6, "fee 1||1", 6, "fee 1|&1", 6);
    }

    @Sentence(of = "Terms 4", says = "AND: TEST { & TEST };")
    static void andIsTighter(Due due) {
        gives(due, "0&0", 0, "0&2", 0, "2&0", 0, "2&3", 1, "1&1&1&0", 0, "1&2=2", 1, "2=2&1", 1, "1&0=1", 0);
        faults(due, "fee &1", 4, "fee 1&", 6, "fee 1&&1", 6);
    }

    @Sentence(of = "Terms 4", says = "TEST: SUM [ (< | = | >) SUM ];")
    static void oneTestAtMost(Due due) {
        gives(due, "3<4", 1, "4<4", 0, "5<4", 0, "3=4", 0, "4=4", 1, "3>4", 0, "4>4", 0, "5>4", 1, "1+1=2+0", 1,
            "(1<2)<2", 1);
        faults(due, "fee 1<2<3", 7, "fee 1=1=1", 7, "fee 3>2>1", 7, "fee 1<2=1", 7, "fee 1<=2", 6, "fee <1", 4, "fee 1<", 6,
            "fee 1=", 6, "fee 1>", 6);
    }

    @Sentence(of = "Terms 4", says = "SUM: TERM { (+ | -) TERM };")
    static void sumsFromTheLeft(Due due) {
        gives(due, "9-4-3", 2, "9-4+3", 8, "1+2*3", 7, "2*3+1", 7, "9-8/4", 7, "0-9999", -9999);
        faults(due, "fee -1", 4, "fee +1", 4, "fee 1+", 6, "fee 1-", 6, "fee 1+-1", 6, "fee 1--1", 6);
    }

    @Sentence(of = "Terms 4", says = "TERM: PIECE { (* | /) PIECE };")
    static void termsFromTheLeft(Due due) {
        gives(due, "7/2*2", 6, "2*7/2", 7, "99/10/3", 3, "!0*5", 5, "6/!0", 6);
        faults(due, "fee *1", 4, "fee /1", 4, "fee 1*", 6, "fee 1/", 6, "fee 1**1", 6, "fee 1*/1", 6);
    }

    @Sentence(of = "Terms 4", says = "PIECE: NUMBER (1 to 4 digits) | NAME | ! PIECE | ( E ).")
    static void numbersOf1To4Digits(Due due) {
        gives(due, "0", 0, "9", 9, "10", 10, "999", 999, "1000", 1000, "9999", 9999, "0000", 0, "0009", 9);
        faults(due, "fee 10000", 4, "fee 00000", 4, "fee 99999", 4, "fee 1+12345", 6);
    }

    @Sentence(of = "Terms 4", says = "| ! PIECE | ( E ).")
    static void piecesWithinPieces(Due due) {
        gives(due, "!0", 1, "!7", 0, "!(0|1)", 0, "(7)", 7, "((7))", 7, "!!7", 1, "!0+1", 2, "!(0+1)", 0);
        faults(due, "fee !", 5, "fee (", 5, "fee ()", 5, "fee )", 4, "fee (1", 6, "fee 1)", 5, "fee (1))", 7, "fee !+1", 5,
            "fee (1)(1)", 7, "fee 1(1)", 5, "fee (1)!1", 7, "fee 1!", 5);
    }

    // ---- names

    @Sentence(of = "Terms 4", says = "NAMES, each one letter: of burn f FUEL, h HEAT of its ROOM, n THE MINUTE;")
    static void namesOfBurn(Due due) {
        areTexts(due, "burn f", "burn h", "burn n", "burn f+h+n");
        for (char c = 'a'; c <= 'z'; c++) {
            due.is("burn " + c, Due.text(new CopiedFire(), "burn " + c), "fhn".indexOf(c) >= 0 ? 0 : -105);
        }
        faults(due, "burn ff", 5, "burn fh", 5, "burn f n", 7);
        CopiedFire x = Twins.late(7);
        x.thing(0, 3, 99, 0);
        x.heats(3, 98);
        String[] laws = {"burn f", "burn h", "burn n", "burn f*(f=99)*(h=98)*(n=7)"};
        int[] want = {99, 98, 7, 99};
        for (int i = 0; i < laws.length; i++) {
            Due.text(x, laws[i]);
            due.is(laws[i], x.told(0, 4), want[i]);
        }
    }

    @Sentence(of = "Terms 4", says = "of fee b BURNT, a ASHES (what fee gives is told by fee(); without a TEXT: BURNT);")
    static void namesOfFee(Due due) {
        for (char c = 'a'; c <= 'z'; c++) {
            due.is("fee " + c, Due.text(new CopiedFire(), "fee " + c), "ba".indexOf(c) >= 0 ? 0 : -104);
        }
        CopiedFire x = Twins.still();
        x.thing(0, 0, 9, 1);
        due.is("without a text, nothing burnt", x.fee(), 0);
        x.minutes(2);
        due.is("without a text", x.fee(), 9);
        Due.text(x, "fine 4");
        Due.text(x, "burn 4");
        due.is("without a text of its own", x.fee(), 9);
        Due.text(x, "fee a");
        due.is("ashes", x.fee(), 1);
        Due.text(x, "fee b");
        due.is("burnt", x.fee(), 9);
    }

    @Sentence(of = "Terms 4",
        says = "of fine f FUEL, r ROOM (what fine gives for a THING is told by fine(); without a TEXT: FUEL).")
    static void namesOfFine(Due due) {
        for (char c = 'a'; c <= 'z'; c++) {
            due.is("fine " + c, Due.text(new CopiedFire(), "fine " + c), "fr".indexOf(c) >= 0 ? 0 : -105);
        }
        CopiedFire x = Twins.still();
        x.thing(5, 7, 99, 1);
        x.thing(5, 0, 0, 1);
        due.is("without a text", x.fine(0), 99);
        due.is("without a text and without fuel", x.fine(1), 0);
        Due.text(x, "fee 4");
        due.is("without a text of its own", x.fine(0), 99);
        Due.text(x, "fine r");
        due.is("the greatest room", x.fine(0), 7);
        due.is("the least room", x.fine(1), 0);
        Due.text(x, "fine f");
        due.is("the most fuel", x.fine(0), 99);
        due.is("no fuel", x.fine(1), 0);
    }

    // ---- words

    @Sentence(of = "Terms 4", says = "A word is a row of letters a .. z, or of digits, as long as it goes;")
    static void wordsAsLongAsTheyGo(Due due) {
        faults(due, "feeb", 0, "fee bb", 4, "fee ba", 4, "fee az", 4, "burnf", 0, "finefine 1", 0, "fee 12345", 4,
            "fee 9999999999", 4, "zee 1", 0, "fee " + "9".repeat(92), 4, "z".repeat(96), 0);
    }

    @Sentence(of = "Terms 4", says = "any other byte is a sign by itself.")
    static void theBytesBesideLettersAndDigits(Due due) {
        int[] beside = {0, 31, '"', '.', ':', '@', 'A', 'Z', '[', '`', '{', 127, 128, 255};
        for (int b : beside) {
            String sign = String.valueOf((char) b);
            faults(due, "fee " + sign + "b", 4, "fee b" + sign, 5, "fee 1" + sign, 5, "fe" + sign + "e 1", 0, "fee" + sign, 3);
        }
        gives(due, "2/1", 2);
    }

    @Sentence(of = "Terms 4", says = "Between words and signs, and at the ends, there may be blanks (byte 32);")
    static void blanksWhereverTheyMayBe(Due due) {
        areTexts(due, "fee(1)", " fee 1", "fee 1 ", "   fee   (   1   +   b   )   ", "fee!1", "fee ! ! 1",
            " ".repeat(91) + "fee 1", "fee 1" + " ".repeat(91), "fee" + " ".repeat(92) + "1");
        faults(due, "fe e 1", 0, "b urn 1", 0, "fee 1 0", 6, "fee\t1", 3, "fee 1\n", 5, "fee\u00a01", 3, "fee 1" + (char) 0, 5);
    }

    @Sentence(of = "Terms 4", says = "a word right behind another one needs one.")
    static void aBlankBetweenTwoWords(Due due) {
        areTexts(due, "fee 1", "fee b");
        faults(due, "fee1", 3, "burn5", 4, "fine1", 4, "1fee", 0, "fee 1b", 5, "fee b1", 5, "fee1+1", 3);
    }

    // ---- faults

    @Sentence(of = "Terms 4", says = "FAULT: the first byte of the first word or sign with which no TEXT goes on")
    static void theFirstOfSeveralFaults(Due due) {
        faults(due, "fee zz zz", 4, "fee 1 )) zz", 6, "fee (b f) )", 7, "x", 0, "  x", 2, "fee b*  zz", 8, "fee 1+zz+zz", 6,
            "fee " + "1+".repeat(45) + "1)", LAST_BYTE);
    }

    @Sentence(of = "Terms 4", says = "(a word that needs a blank ahead of it,")
    static void theWordThatNeedsABlank(Due due) {
        faults(due, "fee1", 3, " fee9999", 4, "fee12345", 3, "fee b12", 5, "fee 12b", 6);
    }

    @Sentence(of = "Terms 4", says = "a NUMBER of more than 4 digits,")
    static void theNumberThatIsTooLong(Due due) {
        faults(due, "fee 12345", 4, "fee    00000", 7, "fee (1+12345)", 7, "fee 12345)", 4, "fee !12345", 5);
        areTexts(due, "fee 1234");
    }

    @Sentence(of = "Terms 4", says = "the ninth ( that would be open within others,")
    static void theNinthThatIsOpen(Due due) {
        areTexts(due, "fee " + "(".repeat(8) + "1" + ")".repeat(8), "fee " + "(1)+".repeat(9) + "1",
            "fee " + "(".repeat(7) + "(1)+(1)" + ")".repeat(7), "fee " + "!(".repeat(8) + "1" + ")".repeat(8));
        faults(due, "fee " + "(".repeat(9) + "1" + ")".repeat(9), 12, "fee " + "( ".repeat(9), 20,
            "fee (1)+" + "(".repeat(9) + "1" + ")".repeat(9), 16, "fee " + "(".repeat(8) + "1+(1)" + ")".repeat(8), 14,
            "fee " + "(".repeat(8), 12);
    }

    @Sentence(of = "Terms 4", says = "the ninth ! likewise, each by itself);")
    static void theNinthNotThatIsOpen(Due due) {
        areTexts(due, "fee " + "!".repeat(8) + "1", "fee " + "!0+".repeat(9) + "1", "fee " + "!".repeat(8) + "(1)",
            "fee " + "!".repeat(8) + "(".repeat(8) + "1" + ")".repeat(8), "fee !1+" + "!".repeat(8) + "1",
            "fee !(!(!(!(!(!(!(!1+!1)))))))");
        faults(due, "fee " + "!".repeat(9) + "1", 12, "fee " + "! ".repeat(9) + "1", 20, "fee " + "!(".repeat(8) + "!1", 20,
            "fee " + "!".repeat(8) + "(!1)", 13, "fee " + "!".repeat(8), 12);
    }

    @Sentence(of = "Terms 4", says = "the end (the place behind the last byte), if it comes too soon.")
    static void theEndComesTooSoon(Due due) {
        faults(due, "", 0, " ", 1, "fee", 3, "fee ", 4, "fee (", 5, "fee !", 5, "fee 1+", 6, "fee 1+   ", 9, "fee (1", 6,
            " ".repeat(96), 96, "fee " + "1+".repeat(46), 96);
    }

    // ---- what texts give

    @Sentence(of = "Terms 4", says = "Ints wrap;")
    static void intsWrap(Due due) {
        gives(due, "8192*8192*32", Integer.MIN_VALUE, "8192*8192*32-1", Integer.MAX_VALUE, "8192*8192*32-1+1",
            Integer.MIN_VALUE, "8192*8192*64", 0, "8192*8192*32/(0-1)", Integer.MIN_VALUE, "0-8192*8192*32",
            Integer.MIN_VALUE, "8192*8192*32<0", 1, "9999*9999*9999", (int) (9999L * 9999 * 9999));
    }

    @Sentence(of = "Terms 4", says = "/ is 0 by 0;")
    static void by0(Due due) {
        gives(due, "7/0", 0, "0/0", 0, "(0-7)/0", 0, "7/(1-1)+3", 3, "7/0*9", 0, "8192*8192*32/0", 0, "7/0/0", 0);
    }

    @Sentence(of = "Terms 4", says = "tests, & | ! give 1 or 0 (what is not 0 is true; both sides are worked out).")
    static void whatIsNot0IsTrue(Due due) {
        gives(due, "!0", 1, "!1", 0, "!(0-1)", 0, "!2", 0, "!9999", 0, "(0-1)&(0-1)", 1, "(0-1)|0", 1, "2&4", 1, "2|4", 1,
            "(3<4)+(4<5)", 2, "0&7/0", 0, "1|7/0", 1, "0|7/0", 0, "8192*8192*32&1", 1);
    }

    @Sentence(of = "Terms 4", says = "Of a KEY that TEXT counts that was told last.")
    static void theLastToldCounts(Due due) {
        CopiedFire x = new CopiedFire();
        x.thing(0, 0, 9, 0);
        String[] texts = {"fee 1", "fine 2", "burn 3", "fee 4", "fine 5", "burn 6"};
        int[][] want = {{1, 9, 5}, {1, 2, 5}, {1, 2, 3}, {4, 2, 3}, {4, 5, 3}, {4, 5, 6}};
        for (int i = 0; i < texts.length; i++) {
            Due.text(x, texts[i]);
            due.is("behind " + texts[i] + ": fee", x.fee(), want[i][0]);
            due.is("behind " + texts[i] + ": fine", x.fine(0), want[i][1]);
            due.is("behind " + texts[i] + ": burn", x.told(0, 4), want[i][2]);
        }
        Due.text(x, "fee 7)");
        due.is("what is no text does not count", x.fee(), 4);
    }
}
