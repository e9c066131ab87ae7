/** Promises 1 to 7: a new object, the text and its faults, and what is told of the pass. */
public final class PassTextTest {
    private static final String TEN_JOININGS = "j0 1 2;".repeat(10);
    private static final String TEN_TALKS = "d0 1 1;".repeat(10);
    private final Checks checks = new Checks();

    public static void main(String[] args) {
        PassTextTest test = new PassTextTest();
        test.newObject();
        test.feeding();
        test.goodTexts();
        test.blanks();
        test.misplaced();
        test.outOfBounds();
        test.tooMany();
        test.contrary();
        test.firstFaultCounts();
        test.faultLeavesAllElse();
        test.passForgets();
        test.emptyText();
        test.textsInARow();
        test.told();
        test.sizes();
        test.travellers();
        test.checks.end();
    }

    private void newObject() {
        MindDuty duty = new MindDuty();
        for (int what = 0; what <= 15; what++) {
            checks.due("new: told(" + what + ")", duty.told(what), 0);
        }
        checks.due("new: fault()", duty.fault(), Checks.NONE);
        checks.due("new: size(0)", duty.size(0), Checks.UNKNOWN);
        checks.due("new: traveller(0, 0)", duty.traveller(0, 0), Checks.UNKNOWN);
        checks.due("new: drift(1)", duty.drift(1), Checks.NOT);
        checks.due("new: minds(0)", duty.minds(0), 1);
        checks.due("new: glacier(60)", duty.glacier(60), 1000000000);
        checks.due("new: seed(5)", duty.seed(5), 0);
        checks.due("new: keep(0)", duty.keep(0), 1);
        checks.due("new: goBack(0)", duty.goBack(0), 1);
        checks.due("new: ask(0, 0, true)", duty.ask(0, 0, true), 1);
        checks.due("new: minds(0) of nothing that fits", duty.minds(0), 0);
        checks.due("new: ask(1, 0, true)", duty.ask(1, 0, true), Checks.UNKNOWN);
    }

    private void feeding() {
        MindDuty duty = new MindDuty();
        checks.due("feed(-1)", duty.feed(-1), Checks.OUTSIDE);
        checks.due("feed(256)", duty.feed(256), Checks.OUTSIDE);
        checks.due("feed(MIN)", duty.feed(Integer.MIN_VALUE), Checks.OUTSIDE);
        checks.due("feed(MAX)", duty.feed(Integer.MAX_VALUE), Checks.OUTSIDE);
        checks.due("told(6)", duty.told(6), 0);
        for (int k = 1; k <= 240; k++) {
            checks.due("feed of letter " + k, duty.feed(k % 256), k);
        }
        checks.due("feed(0) too many", duty.feed(0), Checks.FULL);
        checks.due("feed(256) too many", duty.feed(256), Checks.OUTSIDE);
        checks.due("told(6) when full", duty.told(6), 240);
        checks.due("thePass()", duty.thePass(), -11);
        checks.due("told(6) behind a fault", duty.told(6), 0);
        checks.due("feed(0) anew", duty.feed(0), 1);
        checks.due("feed(255) anew", duty.feed(255), 2);
    }

    private void good(String text, int ideas) {
        MindDuty duty = new MindDuty();
        checks.due("[" + text + "]", Checks.read(duty, text), ideas);
        checks.due("fault() of [" + text + "]", duty.fault(), Checks.NONE);
        checks.due("letters behind [" + text + "]", duty.told(6), 0);
    }

    private void bad(String text, int kind, int where) {
        MindDuty duty = new MindDuty();
        checks.due("[" + text + "]", Checks.read(duty, text), -10 - kind);
        checks.due("fault() of [" + text + "]", duty.fault(), where);
        checks.due("letters behind [" + text + "]", duty.told(6), 0);
        checks.due("ideas behind [" + text + "]", duty.told(2), 0);
        checks.due("gate behind [" + text + "]", duty.told(0), 0);
    }

    private void goodTexts() {
        good("g1 0;", 0);
        good("g999 99;", 0);
        good("g001 000;i01;", 1);
        good("g1 0;i1;i99;", 2);
        good("g1 0;i1;i1;i1;i1;i1;i1;i1;i1;t255;r7;", 8);
        good("g1 0;i1;i2;j0 0 1;j1 1 0;", 2);
        good("g1 0;i1;i1;d0 1 1;d1 0 99;d0 1 1;", 2);
        good("g1 0;t0;i1;t1;i1;t3;t2;t0;", 2);
        good("g1 0;i3;i2;i1;" + TEN_JOININGS + TEN_TALKS, 3);
        good("g1 0;i3;r0;i2;r1;", 2);
    }

    private void blanks() {
        good("  g  1   0  ;  i  5 ;  ", 1);
        unended("g1 0;i5;j 0 0");
        good("g1 0 ; i 5 ; i 6 ; j 0 0 1 ; d 1 0 5 ; r 0 ; t 3 ;", 2);
        bad("g1\t0;", 1, 2);
        bad("g1 0;i5\n;", 1, 7);
        bad("g10;", 1, 3);
        bad("g1 0;i1 2;", 1, 8);
    }

    /** The end is what cannot stand there, behind the blanks. */
    private void unended(String text) {
        bad(text, 1, text.length());
        bad(text + "  ", 1, text.length() + 2);
    }

    private void misplaced() {
        bad("i1;", 1, 0);
        bad(" i1;", 1, 1);
        bad("x", 1, 0);
        bad(";", 1, 0);
        bad("7", 1, 0);
        bad("7777", 1, 0);
        bad("G1 0;", 1, 0);
        bad("g", 1, 1);
        bad("g1", 1, 2);
        bad("g1 ", 1, 3);
        bad("g1 0", 1, 4);
        bad("g1 0 ", 1, 5);
        bad("g1;", 1, 2);
        bad("g;", 1, 1);
        bad("gg", 1, 1);
        bad("g-1 0;", 1, 1);
        bad("g1 0 0;", 1, 5);
        bad("g1 0 5555;", 1, 5);
        bad("g1 0;;", 1, 5);
        bad("g1 0;k", 1, 5);
        bad("g1 0;5", 1, 5);
        bad("g1 0;i", 1, 6);
        bad("g1 0;i1", 1, 7);
        bad("g1 0;i;", 1, 6);
        bad("g1 0;i1;j0;", 1, 10);
        bad("g1 0;i1;j0 0;", 1, 12);
        bad("g1 0;i1;i1;d0 1;", 1, 15);
        bad("g1 0;i1;r;", 1, 9);
        bad("g1 0;t;", 1, 6);
        bad("g1 0;i1;t1 1;", 1, 11);
        bad("g1 0;i1;" + (char) 233, 1, 8);
        bad("" + (char) 0, 1, 0);
    }

    private void outOfBounds() {
        bad("g0 0;", 2, 1);
        bad("g1000 0;", 2, 1);
        bad("g0001 0;", 2, 1);
        bad("g4294967297 0;", 2, 1);
        bad("g1 100;", 2, 3);
        bad("g1 0000;", 2, 3);
        bad("g0", 2, 1);
        bad("g 0x", 2, 2);
        bad("g1 0;i0;", 2, 6);
        bad("g1 0;i100;", 2, 6);
        bad("g1 0;j0 0 0;", 2, 6);
        bad("g1 0;i1;j1 0 0;", 2, 9);
        bad("g1 0;i1;j0 1 0;", 2, 11);
        bad("g1 0;i1;j0 0 1;", 2, 13);
        bad("g1 0;i1;i1;i1;i1;i1;i1;i1;i1;j0 0 8;", 2, 34);
        bad("g1 0;i1;d1 0 5;", 2, 9);
        bad("g1 0;i1;d0 1 5;", 2, 11);
        bad("g1 0;i1;i1;d0 1 0;", 2, 16);
        bad("g1 0;i1;i1;d0 1 100;", 2, 16);
        bad("g1 0;r0;", 2, 6);
        bad("g1 0;i1;r1;", 2, 9);
        bad("g1 0;t1;", 2, 6);
        bad("g1 0;i1;t2;", 2, 9);
        bad("g1 0;i1;t3;", 2, 9);
        bad("g1 0;i1;i1;i1;i1;i1;i1;i1;i1;t256;", 2, 30);
        bad("g1 0;i1;i1;i1;i1;i1;i1;i1;i1;t511;", 2, 30);
        bad("g1 0;i1;i1;i1;i1;i1;i1;i1;t128;", 2, 27);
        bad("g1 0;t0000;", 2, 6);
    }

    private void tooMany() {
        bad("g1 0;g", 3, 5);
        bad("g1 0;i1; g1 0;", 3, 9);
        bad("g1 0;i1;i1;i1;i1;i1;i1;i1;i1;i", 3, 29);
        String three = "g1 0;i3;i2;i1;";
        bad(three + TEN_JOININGS + "j", 3, three.length() + TEN_JOININGS.length());
        bad(three + TEN_TALKS + "d", 3, three.length() + TEN_TALKS.length());
        bad("g1 0;t0;t0;t0;t0;t0;t", 3, 20);
    }

    private void contrary() {
        bad("g1 0;i1;j0 0 0;", 4, 13);
        bad("g1 0;i1;i1;j0 1 0;", 4, 16);
        bad("g1 0;i1;i1;j0 1 1;", 4, 16);
        bad("g1 0;i1;d0 0 1;", 4, 11);
        bad("g1 0;i1;i2;d0 1 1;", 4, 14);
        bad("g1 0;i1;i2;d0 1 0;", 4, 14);
        bad("g1 0;i1;i2;d0 1", 4, 14);
        bad("g1 0;i1;r0;r0;", 4, 12);
        bad("g1 0;i1;r0;r00x", 4, 12);
        bad("g1 0;i1;i1;r1;r0;r 1;", 4, 19);
    }

    private void firstFaultCounts() {
        bad("g0 100;", 2, 1);
        bad("g1 0;i0;x", 2, 6);
        bad("g1 0;x i0;", 1, 5);
        bad("g1 0;i1;j0 0 0;g", 4, 13);
        bad("x g0 0;", 1, 0);
        bad("g1 0;i1;j5 0 0x", 2, 9);
    }

    private void faultLeavesAllElse() {
        MindDuty duty = Checks.made("g50 20;i30;i20;j0 0 1;d0 1 5;r1;t1;t2;");
        duty.pass(0);
        duty.ask(1, 0, true);
        duty.write(0, 1);
        duty.keep(1);
        duty.register(1, false);
        int[] before = new int[16];
        for (int what = 0; what <= 15; what++) {
            before[what] = duty.told(what);
        }
        checks.due("a fault", Checks.read(duty, "g7 7;i9;i8;i7;i6;j0 1 2;t3;t3;t3;r0;g"), -13);
        checks.due("its letter", duty.fault(), 36);
        for (int what = 0; what <= 15; what++) {
            checks.due("told(" + what + ") behind a fault", duty.told(what), before[what]);
        }
        checks.due("size(1) behind a fault", duty.size(1), 20);
        checks.due("traveller(0, 3) behind a fault", duty.traveller(0, 3), 1);
        checks.due("undo() behind a fault", duty.undo(), 0);
        checks.due("goBack(1) behind a fault", duty.goBack(1), 1);
        checks.due("follows(1) behind a fault", duty.follows(1), 3);
        checks.due("talkDown behind a fault", duty.talkDown(0, 1, 0), 5);
        checks.due("a good text", Checks.read(duty, "g7 8;"), 0);
        checks.due("fault() behind a good text", duty.fault(), Checks.NONE);
    }

    private void passForgets() {
        MindDuty duty = Checks.made("g50 20;i30;i20;d0 1 5;r1;t1;t1;");
        duty.seed(77);
        duty.talk(1, 0, 1);
        duty.pass(0);
        duty.ask(1, 0, true);
        duty.write(0, 1);
        duty.keep(0);
        duty.register(1, false);
        checks.due("PAID ahead", duty.told(11), 30);
        checks.due("MINUTES ahead", duty.told(12), 5);
        checks.due("the same anew", Checks.read(duty, "g50 20;i30;i20;d0 1 5;r1;t1;t1;"), 2);
        checks.due("REGISTERED anew", duty.told(7), 2);
        checks.due("his IDEAS anew", duty.traveller(1, 0), 1);
        for (int what = 11; what <= 15; what++) {
            checks.due("told(" + what + ") anew", duty.told(what), 0);
        }
        checks.due("GONE anew", duty.told(9), 0);
        checks.due("undo() anew", duty.undo(), Checks.NOT);
        checks.due("goBack(0) anew", duty.goBack(0), Checks.NOT);
        checks.due("minds(0) anew", duty.minds(0), 4);
        checks.due("judge() anew", duty.judge(), Checks.NONE);
        checks.due("THE SEED stays", duty.seed(0), 77);
    }

    private void emptyText() {
        MindDuty duty = Checks.made("g50 20;i30;i20;j0 0 1;d0 1 5;r1;t1;");
        duty.keep(0);
        checks.due("an empty text", duty.thePass(), 0);
        checks.due("fault() of an empty text", duty.fault(), Checks.NONE);
        for (int what = 0; what <= 15; what++) {
            checks.due("told(" + what + ") of an empty text", duty.told(what), 0);
        }
        checks.due("drift(1) of an empty text", duty.drift(1), Checks.NOT);
        checks.due("size(0) of an empty text", duty.size(0), Checks.UNKNOWN);
        checks.due("traveller(0, 0) of an empty text", duty.traveller(0, 0), Checks.UNKNOWN);
        checks.due("glacier(1) of an empty text", duty.glacier(1), 1000000000);
        checks.due("goBack(0) of an empty text", duty.goBack(0), Checks.NOT);
        // blanks may stand anywhere, so they do not make an empty text another one
        Checks.read(duty, "g50 20;i30;");
        checks.due("blanks alone", Checks.read(duty, "   "), 0);
        checks.due("fault() of blanks alone", duty.fault(), Checks.NONE);
        checks.due("told(0) of blanks alone", duty.told(0), 0);
        checks.due("drift(1) of blanks alone", duty.drift(1), Checks.NOT);
    }

    /** Nothing of a text is left in a later one, be it read well or not. */
    private void textsInARow() {
        MindDuty duty = Checks.made("g50 20;i30;i20;j0 0 1;d0 1 5;r1;t3;t1;");
        checks.due("another", Checks.read(duty, "g60 30;i9;i8;i7;j1 1 0;j1 1 2;d0 1 5;d1 2 4;r0;r2;t7;t7;t7;"), 3);
        checks.due("a small one", Checks.read(duty, "g70 9;i5;"), 1);
        int[] due = {70, 9, 1, 0, 0, 0, 0, 0, 0, 0, 0, 0, 0, 0, 0, 0};
        for (int what = 0; what <= 15; what++) {
            checks.due("told(" + what + ") of a small one", duty.told(what), due[what]);
        }
        checks.due("follows(1) of a small one", duty.follows(1), 1);
        checks.due("an empty one", duty.thePass(), 0);
        checks.due("another empty one", duty.thePass(), 0);
        for (int what = 0; what <= 15; what++) {
            checks.due("told(" + what + ") of an empty one", duty.told(what), 0);
        }
        checks.due("a long one", Checks.read(duty, "g1 0;i5;i6;i7;i8;t3;"), 4);
        checks.due("its beginning alone", Checks.read(duty, "g1 0;i5"), -11);
        checks.due("fault() at its end", duty.fault(), 7);
        checks.due("its beginning within a NUMBER's place", Checks.read(duty, "g1 0;i"), -11);
        checks.due("fault() at its end", duty.fault(), 6);
        checks.due("its clause whole", Checks.read(duty, "g1 0;i5;"), 1);
    }

    private void told() {
        MindDuty duty = Checks.made("g40 7;i30;i20;i3;j0 0 1;j1 1 2;d0 1 5;d1 2 5;d0 2 6;r1;t1;t3;t7;t2;");
        Checks.feed(duty, "g1");
        duty.talk(0, 0, 1);
        duty.goRound(2, false);
        duty.pass(3);
        duty.come(3, 1);
        duty.pass(3);
        duty.ask(1, 0, true);
        duty.ask(1, 0, true);
        duty.write(0, 1);
        int[] due = {40, 7, 3, 2, 3, 4, 2, 3, 7, 12, 2, 30, 5, 2, 1, 5};
        for (int what = 0; what <= 15; what++) {
            checks.due("told(" + what + ")", duty.told(what), due[what]);
        }
        checks.due("told(10) of all", Checks.made("g5 0;i6;t1;t0;t1;t1;t1;").told(10), 29);
        for (int wild : Checks.WILD) {
            if (wild < 0 || wild > 15) {
                checks.due("told(" + wild + ")", duty.told(wild), Checks.OUTSIDE);
            }
        }
    }

    private void sizes() {
        MindDuty duty = Checks.made("g40 7;i30;i1;i99;");
        checks.due("size(0)", duty.size(0), 30);
        checks.due("size(1)", duty.size(1), 1);
        checks.due("size(2)", duty.size(2), 99);
        for (int wild : Checks.WILD) {
            if (wild < 0 || wild > 2) {
                checks.due("size(" + wild + ")", duty.size(wild), Checks.UNKNOWN);
            }
        }
    }

    private void travellers() {
        MindDuty duty = Checks.made("g40 7;i30;i21;i3;j0 0 1;r2;t7;t6;t0;");
        int[][] due = {{7, 54, 40, 0}, {6, 24, 21, 0}, {0, 0, 0, 0}};
        for (int t = 0; t < 3; t++) {
            for (int what = 0; what < 4; what++) {
                checks.due("traveller(" + t + ", " + what + ")", duty.traveller(t, what), due[t][what]);
            }
        }
        duty.goRound(1, false);
        checks.due("a lost one's IDEAS", duty.traveller(1, 0), 6);
        checks.due("a lost one's SIZE", duty.traveller(1, 1), 24);
        checks.due("a lost one's duty", duty.traveller(1, 2), 21);
        checks.due("a lost one is GONE", duty.traveller(1, 3), 1);
        for (int wild : Checks.WILD) {
            if (wild < 0 || wild > 2) {
                checks.due("traveller(" + wild + ", 0)", duty.traveller(wild, 0), Checks.UNKNOWN);
                checks.due("traveller(" + wild + ", 4)", duty.traveller(wild, 4), Checks.UNKNOWN);
            }
            if (wild < 0 || wild > 3) {
                checks.due("traveller(0, " + wild + ")", duty.traveller(0, wild), Checks.OUTSIDE);
            }
        }
    }
}
