/** Section 1: the text of a pass, its bounds and its faults. A '^' stands ahead of the letter that has the fault. */
public final class EdgeTextTest extends Sentences {
    private static final String EIGHT = "g1 0;i1;i1;i1;i1;i1;i1;i1;i1;";
    private static final String TWO = "g1 0;i5;i4;";

    public static void main(String[] args) {
        new EdgeTextTest().runAll();
    }

    private MindDuty good(String text, int ideas) {
        MindDuty duty = new MindDuty();
        due("[" + text + "]", Checks.read(duty, text), ideas);
        due("fault() of [" + text + "]", duty.fault(), Checks.NONE);
        return duty;
    }

    private void faulty(int kind, String marked) {
        int at = marked.indexOf('^');
        String text = marked.replace("^", "");
        MindDuty duty = new MindDuty();
        due("[" + text + "]", Checks.read(duty, text), -10 - kind);
        due("fault() of [" + text + "]", duty.fault(), at);
    }

    // ---- the clauses

    @Says("Section 1: THE PASS is told in a text (240 letters at most):")
    void letters240() {
        good("g1 0;" + " ".repeat(231) + "i5;", 1);
        good("g1 0;" + " ".repeat(232) + "i5;", 1);
        good(" ".repeat(235) + "g1 0;", 0);
        MindDuty duty = new MindDuty();
        Checks.feed(duty, "g1 0;" + " ".repeat(233) + "i5");
        due("a letter too many", duty.feed(';'), Checks.FULL);
        due("the text without it", duty.thePass(), -11);
        due("its end", duty.fault(), 240);
    }

    @Says("Section 1: clauses: 'g' W Q ';'")
    void gateClause() {
        MindDuty duty = good("g12 34;", 0);
        due("W", duty.told(0), 12);
        due("Q", duty.told(1), 34);
        faulty(1, "g^;");
        faulty(1, "g1^;");
        faulty(1, "g1 0 ^0;");
        faulty(1, "g1 0^i5;");
        faulty(1, "g1^,0;");
    }

    @Says("Section 1: (who has IDEAS of more than W together is STUCK,")
    void moreThanTheGate() {
        MindDuty duty = Checks.made("g50 0;i49;i1;i2;t1;t3;t5;t0;");
        due("STUCK: 51, not 49, 50 or 0", duty.told(10), 4);
        due("pass(1): 50", duty.pass(1), 50);
        due("pass(2): 51", duty.pass(2), Checks.NOT);
        due("of all eight of 99", Checks.made("g791 0;i99;i99;i99;i99;i99;i99;i99;i99;t255;").told(10), 1);
        due("of all eight of 99 at their own", Checks.made("g792 0;i99;i99;i99;i99;i99;i99;i99;i99;t255;").told(10), 0);
    }

    @Says("Section 1: W 1 .. 999;")
    void gateBounds() {
        due("W", good("g1 0;", 0).told(0), 1);
        due("W", good("g999 0;", 0).told(0), 999);
        faulty(2, "g^0 0;");
        faulty(2, "g^000 0;");
        faulty(2, "g^1000 0;");
    }

    @Says("Section 1: the glacier takes one by Q of a hundred, 0 .. 99;")
    void riskBounds() {
        due("Q", good("g1 0;", 0).told(1), 0);
        due("Q", good("g1 99;", 0).told(1), 99);
        due("none of a hundred", good("g1 0;", 0).glacier(1), 1000000000);
        due("one of a hundred", good("g1 1;", 0).glacier(1), 990000000);
        due("all but one", good("g1 99;", 0).glacier(1), 10000000);
        faulty(2, "g1 ^100;");
        faulty(2, "g1 ^999;");
    }

    @Says("Section 1: first, once)")
    void gateFirstAndOnce() {
        good("  g1 0;", 0);
        for (String clause : new String[] {"i5;", "j0 0 1;", "d0 1 5;", "r0;", "t0;"}) {
            faulty(1, "^" + clause + "g1 0;");
            faulty(1, " ^" + clause + "g1 0;");
        }
        faulty(3, "g1 0;^g1 0;");
        faulty(3, "g1 0;i5;t1; ^g2 0;");
    }

    @Says("Section 1: 'i' S ';'")
    void ideaClause() {
        due("SIZE", good("g1 0;i12;", 1).size(0), 12);
        faulty(1, "g1 0;i^;");
        faulty(1, "g1 0;i5 ^5;");
        faulty(1, "g1 0;i5^i5;");
    }

    @Says("Section 1: (8 IDEAS at most:")
    void eightIdeas() {
        good("g1 0;i1;i1;i1;i1;i1;i1;i1;", 7);
        due("IDEAS", good(EIGHT, 8).told(2), 8);
        faulty(3, EIGHT + "^i1;");
        due("none", good("g1 0;", 0).told(2), 0);
    }

    @Says("Section 1: SIZE S 1 .. 99)")
    void sizeBounds() {
        due("SIZE", good("g1 0;i1;", 1).size(0), 1);
        due("SIZE", good("g1 0;i99;", 1).size(0), 99);
        faulty(2, "g1 0;i^0;");
        faulty(2, "g1 0;i^100;");
    }

    @Says("Section 1: 'j' A B C ';'")
    void joiningClause() {
        due("JOININGS", good(TWO + "j0 0 1;", 2).told(3), 1);
        faulty(1, TWO + "j^;");
        faulty(1, TWO + "j0^;");
        faulty(1, TWO + "j0 0^;");
        faulty(1, TWO + "j0 0 1 ^1;");
        faulty(1, TWO + "j0 0 1^j0 0 1;");
    }

    @Says("Section 1: (10 JOININGS at most:")
    void tenJoinings() {
        due("JOININGS", good(TWO + "j0 0 1;".repeat(10), 2).told(3), 10);
        faulty(3, TWO + "j0 0 1;".repeat(10) + "^j0 0 1;");
        due("the tenth joins", good("g1 0;i1;i1;i1;" + "j0 0 1;".repeat(9) + "j1 1 2;", 3).follows(1), 7);
        due("none", good(TWO, 2).told(3), 0);
    }

    @Says("Section 1: from IDEA A and B, the same or not, C comes,")
    void sameOrNot() {
        due("of the same", good(TWO + "j0 0 1;", 2).follows(1), 3);
        MindDuty duty = good("g1 0;i1;i1;i1;j0 1 2;", 3);
        due("of both", duty.follows(3), 7);
        due("of A alone", duty.follows(1), 1);
        due("of B alone", duty.follows(2), 2);
        due("of C", duty.follows(4), 4);
        due("told the other way", good("g1 0;i1;i1;i1;j1 0 2;", 3).follows(3), 7);
    }

    @Says("Section 1: unlike both,")
    void unlikeBoth() {
        faulty(4, TWO + "j0 0 ^0;");
        faulty(4, TWO + "j0 1 ^0;");
        faulty(4, TWO + "j0 1 ^1;");
        faulty(4, TWO + "j1 0 ^1;");
        good(TWO + "j1 1 0;", 2);
    }

    @Says("Section 1: all told ahead)")
    void joinedToldAhead() {
        faulty(2, "g1 0;j^0 0 1;");
        faulty(2, "g1 0;i5;j^1 0 0;");
        faulty(2, "g1 0;i5;j0 ^1 0;");
        faulty(2, "g1 0;i5;j0 0 ^1;i5;");
        good("g1 0;i5;i5;j0 0 1;", 2);
        faulty(2, EIGHT + "j^8 0 1;");
        faulty(2, EIGHT + "j0 ^8 1;");
        faulty(2, EIGHT + "j0 1 ^8;");
        due("the last of eight", good(EIGHT + "j7 6 5;", 8).follows(192), 224);
    }

    @Says("Section 1: 'd' A B T ';'")
    void talkClause() {
        due("TALKS", good(TWO + "d0 1 5;", 2).told(4), 1);
        faulty(1, TWO + "d^;");
        faulty(1, TWO + "d0^;");
        faulty(1, TWO + "d0 1^;");
        faulty(1, TWO + "d0 1 5 ^5;");
        faulty(1, TWO + "d0 1 5^d0 1 5;");
    }

    @Says("Section 1: (10 TALKS at most:")
    void tenTalks() {
        due("TALKS", good(TWO + "d0 1 5;".repeat(10), 2).told(4), 10);
        faulty(3, TWO + "d0 1 5;".repeat(10) + "^d0 1 5;");
        due("the tenth is talked by", good(TWO + "d0 1 5;".repeat(9) + "d0 1 4;", 2).talkDown(0, 1, 0), 4);
        MindDuty ten = good("g4 0;i5;i4;i4;" + "d0 1 5;".repeat(9) + "d0 2 4;t1;", 3);
        due("the tenth is next", ten.talkDown(0, 2, 1), 2);
        due("the tenth is SOONEST", ten.soonest(0), 4);
        due("he is TALKED down by the tenth", ten.talk(0, 0, 2), 4);
        due("none", good(TWO, 2).told(4), 0);
    }

    @Says("Section 1: A becomes B by talk of T minutes, 1 .. 99,")
    void talkBounds() {
        due("1", good(TWO + "d0 1 1;", 2).talkDown(0, 1, 0), 1);
        due("99", good(TWO + "d0 1 99;", 2).talkDown(0, 1, 0), 99);
        due("not B to A", good(TWO + "d0 1 99;", 2).talkDown(1, 0, 0), Checks.NONE);
        faulty(2, TWO + "d0 1 ^0;");
        faulty(2, TWO + "d0 1 ^100;");
    }

    @Says("Section 1: unlike, told ahead,")
    void talkedUnlikeAndToldAhead() {
        faulty(4, TWO + "d0 ^0 5;");
        faulty(4, TWO + "d1 ^1 5;");
        faulty(2, "g1 0;d^0 1 5;");
        faulty(2, "g1 0;i5;d^1 0 5;i5;");
        faulty(2, "g1 0;i5;d0 ^1 5;i5;");
        faulty(2, EIGHT + "d^8 0 5;");
        faulty(2, EIGHT + "d0 ^8 5;");
        due("the last of eight", good(EIGHT + "d7 6 5;", 8).talkDown(7, 6, 0), 5);
        due("the last but one of eight", good(EIGHT + "d6 7 5;", 8).talkDown(6, 7, 0), 5);
    }

    @Says("Section 1: B no larger than A)")
    void noLargerThanA() {
        good("g1 0;i5;i4;d0 1 5;", 2);
        good("g1 0;i5;i5;d0 1 5;", 2);
        faulty(4, "g1 0;i5;i6;d0 ^1 5;");
        good("g1 0;i99;i1;d0 1 5;", 2);
        faulty(4, "g1 0;i1;i99;d0 ^1 5;");
    }

    @Says("Section 1: 'r' A ';'")
    void registerClause() {
        due("REGISTERED", good(TWO + "r1;", 2).told(7), 2);
        faulty(1, TWO + "r^;");
        faulty(1, TWO + "r0 ^1;");
        faulty(1, TWO + "r0^r1;");
    }

    @Says("Section 1: (IDEA A told ahead is REGISTERED;")
    void registeredToldAhead() {
        faulty(2, "g1 0;r^0;");
        faulty(2, "g1 0;i5;r^1;i5;");
        good("g1 0;i5;i5;r1;", 2);
        faulty(2, EIGHT + "r^8;");
        due("none is else", good(TWO, 2).told(7), 0);
        due("the last of eight", good(EIGHT + "r7;", 8).told(7), 128);
    }

    @Says("Section 1: each once)")
    void registeredOnce() {
        due("all", good(EIGHT + "r0;r1;r2;r3;r4;r5;r6;r7;", 8).told(7), 255);
        faulty(4, TWO + "r0;r^0;");
        faulty(4, TWO + "r1;r0;r^1;");
        faulty(4, EIGHT + "r7;r6;r^007;");
    }

    @Says("Section 1: 't' M ';'")
    void travellerClause() {
        due("his IDEAS", good(TWO + "t2;", 2).traveller(0, 0), 2);
        faulty(1, TWO + "t^;");
        faulty(1, TWO + "t1 ^1;");
        faulty(1, TWO + "t1^t1;");
    }

    @Says("Section 1: (5 TRAVELLERS at most:")
    void fiveTravellers() {
        due("TRAVELLERS", good("g1 0;" + "t0;".repeat(5), 0).told(5), 5);
        faulty(3, "g1 0;" + "t0;".repeat(5) + "^t0;");
        due("none", good(TWO, 2).told(5), 0);
    }

    @Says("Section 1: has IDEAS M, a SET 0 .. 255")
    void mindBounds() {
        due("0", good(EIGHT + "t0;", 8).traveller(0, 0), 0);
        due("255", good(EIGHT + "t255;", 8).traveller(0, 0), 255);
        faulty(2, EIGHT + "t^256;");
        faulty(2, EIGHT + "t^999;");
    }

    @Says("Section 1: of those told ahead).")
    void mindToldAhead() {
        due("nothing, ahead of all", good("g1 0;t0;", 0).traveller(0, 0), 0);
        faulty(2, "g1 0;t^1;i5;");
        good("g1 0;i5;t1;", 1);
        faulty(2, "g1 0;i5;t^2;i5;");
        faulty(2, "g1 0;i5;t^3;i5;");
        good("g1 0;i5;i5;t3;", 2);
        faulty(2, "g1 0;i5;i5;t^4;");
        String seven = EIGHT.substring(0, EIGHT.length() - 3);
        good(seven + "t127;", 7);
        faulty(2, seven + "t^128;i1;");
        faulty(2, seven + "t^255;i1;");
    }

    // ---- letters

    @Says("Section 1: NUMBERS have one to three figures;")
    void figures() {
        good("g1 0;", 0);
        good("g01 00;", 0);
        MindDuty duty = good("g007 099;i07;i010;j000 00 001;d01 000 009;t003;", 2);
        due("W", duty.told(0), 7);
        due("Q", duty.told(1), 99);
        due("SIZE of 0", duty.size(0), 7);
        due("SIZE of 1", duty.size(1), 10);
        due("T", duty.talkDown(1, 0, 0), 9);
        due("M", duty.traveller(0, 0), 3);
        faulty(1, "g^;");
        faulty(2, "g^0001 0;");
        faulty(2, "g1 ^0000;");
        faulty(2, "g^123456789012345678901234567890 0;");
        faulty(2, "g^4294967297 0;");
    }

    @Says("Section 1: a word is one letter;")
    void oneLetterWords() {
        faulty(1, "g^g1 0;");
        faulty(1, "g1 0;i^i5;");
        faulty(1, "g1 0;i^d5;");
        faulty(1, "g^ate 1 0;");
    }

    @Says("Section 1: blanks (32) may stand anywhere but within NUMBERS;")
    void blanks() {
        String text = "g 50 20 ; i 30 ; i 20 ; j 0 0 1 ; d 0 1 5 ; r 1 ; t 3 ;";
        good(text, 2);
        good("  " + text.replace(" ", "   ") + "  ", 2);
        faulty(1, "g1 0 ^5;");
        faulty(1, "g1 0;i1 ^2;");
        faulty(1, TWO + "t1 ^0;");
        for (int letter : new int[] {0, 9, 10, 13, 31, 33, 127, 160, 255}) {
            faulty(1, "g1 0;^" + (char) letter + "i5;");
            faulty(1, "g^" + (char) letter + "1 0;");
            faulty(1, "g1^" + (char) letter + "0;");
        }
    }

    @Says("Section 1: two NUMBERS side by side need one.")
    void blankBetweenNumbers() {
        faulty(1, "g10^;");
        faulty(1, TWO + "j00 1^;");
        faulty(1, TWO + "j001^;");
        faulty(2, TWO + "j^012;");
        good("g1 0;", 0);
        good("g1  0;", 0);
        good("g1 0;i5;t1;", 1);
    }

    // ---- faults

    @Says("Section 1: FAULTS, at the first letter that has one")
    void firstOfFaults() {
        faulty(1, "^x g0 0;");
        faulty(2, "g^0 100;");
        faulty(2, "g^0 0;x");
        faulty(1, "g1 0;^x i0;");
        faulty(3, "g1 0;^g0 0;");
        faulty(4, TWO + "j0 0 ^0;g");
        faulty(2, TWO + "j^5 0 5x");
        faulty(4, TWO + "d1 ^0 0;");
        faulty(2, TWO + "d0 1 ^0x");
        faulty(1, "g1 0;i5^x0;");
        faulty(3, EIGHT + "^i0;");
        faulty(3, "g1 0;t0;t0;t0;t0;t0;^t9;");
        faulty(2, EIGHT + "r^8;i1;");
    }

    @Says("Section 1: (the end at the text's length),")
    void faultsAtTheEnd() {
        for (String beginning : new String[] {"g", "g1", "g1 0", TWO + "i", TWO + "i5", TWO + "j", TWO + "j0", TWO + "j0 0", TWO + "j0 0 1",
            TWO + "d", TWO + "d0", TWO + "d0 1", TWO + "d0 1 5", TWO + "r", TWO + "r1", TWO + "t", TWO + "t1"}) {
            faulty(1, beginning + "^");
            faulty(1, beginning + " ^");
            faulty(1, beginning + "   ^");
        }
        endBehindALonger("g1 0;i5;i4;", "g1 0;i5;i4");
        endBehindALonger("g1 0;i5;i4;", "g1 0;i5;i");
        endBehindALonger("g1 0;i5;i4;", "g1 0;i");
        endBehindALonger("g1 0   ;", "g1 0");
        endBehindALonger("g1 0   ;", "g1 ");
        endBehindALonger("g1 0;i5;", "g1");
    }

    /** The letters that an earlier text had there do not count. */
    private void endBehindALonger(String longer, String text) {
        MindDuty duty = Checks.made(longer);
        due("[" + text + "] behind [" + longer + "]", Checks.read(duty, text), -11);
        due("its end", duty.fault(), text.length());
    }

    @Says("Section 1: of these the least:")
    void leastOfFaults() {
        faulty(2, TWO + "j0 0 ^0000;");
        faulty(2, TWO + "j0 1 ^0001;");
        faulty(2, TWO + "d0 ^0000 5;");
        faulty(2, TWO + "d1 ^0000 5;");
        faulty(2, TWO + "r0;r^0000;");
    }

    @Says("Section 1: 1 it cannot stand there (a letter that is no word,")
    void noWord() {
        for (int letter = 0; letter < 256; letter++) {
            if ("g ijdrt".indexOf(letter) < 0) {
                faulty(1, "g1 0;^" + (letter == '^' ? '_' : (char) letter));
                faulty(1, "^" + (letter == '^' ? '_' : (char) letter) + "g1 0;");
            }
        }
        MindDuty duty = new MindDuty();
        due("'^' itself", Checks.read(duty, "^"), -11);
        faulty(1, "g1 0;^;");
        faulty(1, "g1 0;^7");
        faulty(1, "g1 0;^7777");
        faulty(1, "g^-1 0;");
        faulty(1, "g1 0;i^+5;");
        faulty(1, "g1^.5;");
        faulty(1, "^G1 0;");
        faulty(1, "g1 0;^I5;");
    }

    @Says("Section 1: another word first than 'g').")
    void anotherWordFirst() {
        for (String word : new String[] {"i", "j", "d", "r", "t"}) {
            faulty(1, "^" + word);
            faulty(1, "  ^" + word + "0;");
        }
    }

    @Says("Section 1: 2 a NUMBER of four figures or more,")
    void fourFigures() {
        good("g001 0;", 0);
        faulty(2, "g^0001 0;");
        faulty(2, "g1 ^0000;");
        faulty(2, "g1 0;i^0005;");
        faulty(2, TWO + "j^0000 0 1;");
        faulty(2, TWO + "j0 ^0000 1;");
        faulty(2, TWO + "j0 0 ^0001;");
        faulty(2, TWO + "d^0000 1 5;");
        faulty(2, TWO + "d0 ^0001 5;");
        faulty(2, TWO + "d0 1 ^0005;");
        faulty(2, TWO + "r^0001;");
        faulty(2, TWO + "t^0001;");
        faulty(2, "g^00001 0;");
    }

    @Says("Section 1: or out of its bounds;")
    void outOfBounds() {
        faulty(2, "g^0 0;");
        faulty(2, "g1 ^100;");
        faulty(2, "g1 0;i^0;");
        faulty(2, "g1 0;i^100;");
        faulty(2, TWO + "d0 1 ^0;");
        faulty(2, TWO + "d0 1 ^100;");
        faulty(2, EIGHT + "t^256;");
    }

    @Says("Section 1: an IDEA that was not told yet,")
    void notToldYet() {
        faulty(2, TWO + "j^2 0 1;i1;");
        faulty(2, TWO + "j0 ^2 1;i1;");
        faulty(2, TWO + "j0 1 ^2;i1;");
        faulty(2, TWO + "d^2 0 1;i1;");
        faulty(2, TWO + "d0 ^2 1;i1;");
        faulty(2, TWO + "r^2;i1;");
        faulty(2, TWO + "r  ^999;i1;");
    }

    @Says("Section 1: an M with bits of such (at its first).")
    void bitsNotToldYet() {
        faulty(2, TWO + "t^4;i1;");
        faulty(2, TWO + "t^5;i1;");
        faulty(2, TWO + "t  ^128;i1;");
        good(TWO + "i1;t4;", 3);
    }

    @Says("Section 1: 3 'g' again,")
    void gateAgain() {
        faulty(3, "g1 0;^g");
        faulty(3, "g1 0; i5; ^g1 0;");
    }

    @Says("Section 1: a ninth 'i',")
    void ninthIdea() {
        faulty(3, EIGHT + "^i");
        faulty(3, EIGHT + "t255; ^i1;");
    }

    @Says("Section 1: an eleventh 'j', 'd',")
    void eleventh() {
        faulty(3, TWO + "j0 0 1;".repeat(10) + "^j");
        faulty(3, TWO + "d0 1 5;".repeat(10) + "^d");
        good(TWO + "j0 0 1;".repeat(10) + "d0 1 5;".repeat(10), 2);
        faulty(3, TWO + "j0 0 1;".repeat(10) + "d0 1 5;".repeat(10) + " ^d0 1 5;");
        faulty(3, TWO + "d0 1 5;".repeat(10) + "j0 0 1;".repeat(10) + " ^j0 0 1;");
    }

    @Says("Section 1: a sixth 't' (at it).")
    void sixthTraveller() {
        faulty(3, TWO + "t0;t1;t2;t3;t3;^t");
        faulty(3, TWO + "t0;t1;t2;t3;t3; ^t9;");
    }

    @Says("Section 1: 4 C like A or B (at the C);")
    void joinedToItself() {
        faulty(4, TWO + "j0 0 ^0;");
        faulty(4, TWO + "j0 1 ^0;");
        faulty(4, TWO + "j0 1  ^1;");
        faulty(4, TWO + "j0 1 ^001;");
        faulty(4, TWO + "j0 0 ^0");
        faulty(4, TWO + "j0 0 ^0x");
    }

    @Says("Section 1: B like A, larger than A (at the B);")
    void talkedToItself() {
        faulty(4, TWO + "d0 ^0 5;");
        faulty(4, TWO + "d1 ^0 5;");
        faulty(4, TWO + "d1  ^00 0;");
        faulty(4, TWO + "d1 ^0");
        faulty(4, TWO + "d1 ^0x");
    }

    @Says("Section 1: A REGISTERED already (at it).")
    void registeredAlready() {
        faulty(4, TWO + "r0;r^0;");
        faulty(4, TWO + "r0; r  ^00;");
        faulty(4, TWO + "r0;r^0");
        faulty(4, TWO + "r0;r^0x");
        good(TWO + "r0;r1;", 2);
    }

    @Says("Section 1: An empty text: no PASS.")
    void emptyText() {
        MindDuty duty = new MindDuty();
        due("thePass()", duty.thePass(), 0);
        toldIs(duty, 0, 0, 0, 0, 0, 0, 0, 0, 0, 0, 0, 0, 0, 0, 0, 0);
        due("fault()", duty.fault(), Checks.NONE);
        due("drift(1)", duty.drift(1), Checks.NOT);
        same("it is as in a new object", Sentences::none, () -> {
            MindDuty was = rich();
            was.seed(0);
            // the letters that it has, and then none
            was.thePass();
            was.thePass();
            return was;
        });
        // blanks may stand anywhere, so they do not make an empty text another one
        due("blanks alone", Checks.read(duty, "   "), 0);
        due("fault() of blanks alone", duty.fault(), Checks.NONE);
        due("drift(1) of blanks alone", duty.drift(1), Checks.NOT);
    }
}
