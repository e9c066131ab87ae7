/** Promises 15 to 25: what is tried from now, with nothing changed by it. */
public final class TriedTest {
    private static final String TEXT = "g50 20;i30;i20;i9;i40;i5;j0 1 3;j2 2 4;j3 4 0;d3 0 4;d0 1 5;d0 2 7;d1 2 3;d2 4 1;r2;t3;t9;t20;t0;";
    private final Checks checks = new Checks();

    public static void main(String[] args) {
        TriedTest test = new TriedTest();
        test.following();
        test.owing();
        test.parting();
        test.talkingDown();
        test.soonest();
        test.smallest();
        test.better();
        test.gains();
        test.free();
        test.share();
        test.glacier();
        test.wrongNumbers();
        test.nothingChanges();
        test.checks.end();
    }

    private void following() {
        MindDuty duty = Checks.made(TEXT);
        checks.due("follows(0)", duty.follows(0), 0);
        checks.due("follows(3)", duty.follows(3), 11);
        checks.due("follows(4): one joined with itself", duty.follows(4), 20);
        checks.due("follows(12): over and over", duty.follows(12), 29);
        checks.due("follows(31)", duty.follows(31), 31);
        MindDuty chain = Checks.made("g9 0;i1;i1;i1;i1;i1;i1;i1;i1;j6 6 7;j5 5 6;j4 4 5;j3 3 4;j2 2 3;j1 1 2;j0 0 1;");
        checks.due("follows(1) along a chain told backwards", chain.follows(1), 255);
        checks.due("follows(128) at the chain's end", chain.follows(128), 128);
        checks.due("follows does not ask what is REGISTERED", Checks.made("g9 0;i1;i1;r0;").follows(2), 2);
    }

    private void owing() {
        MindDuty duty = Checks.made(TEXT);
        checks.due("owed(0)", duty.owed(0), 0);
        checks.due("owed(3)", duty.owed(3), 50);
        checks.due("owed(11)", duty.owed(11), 70);
        checks.due("owed(31)", duty.owed(31), 55);
        checks.due("owed(20): in the country", duty.owed(20), 0);
        checks.due("owed(8)", duty.owed(8), 40);
        MindDuty mixed = Checks.made("g9 0;i9;i7;i5;j0 1 2;r0;");
        checks.due("what is REGISTERED does not help to second thoughts", mixed.owed(6), 12);
        checks.due("with it in the SET it does", mixed.owed(7), 9);
        MindDuty circle = Checks.made("g9 0;i9;i9;j0 0 1;j1 1 0;");
        checks.due("each from the other: both half, cut", circle.owed(3), 8);
    }

    private void parting() {
        MindDuty duty = Checks.made(TEXT);
        checks.due("parts(3, 0)", duty.parts(3, 0), 3);
        checks.due("parts(3, 1)", duty.parts(3, 1), 50);
        checks.due("parts(0, 0): what is REGISTERED helps", duty.parts(0, 0), 8);
        checks.due("parts(0, 1)", duty.parts(0, 1), 40);
        checks.due("parts(4, 0): it is there", duty.parts(4, 0), 0);
        checks.due("parts(4, 1)", duty.parts(4, 1), 0);
        checks.due("parts(2, 0): REGISTERED itself", duty.parts(2, 0), 0);
        checks.due("parts(1, 0)", duty.parts(1, 0), Checks.NONE);
        checks.due("parts(1, 1)", duty.parts(1, 1), Checks.NONE);
        MindDuty like = Checks.made("g9 0;i5;i5;i10;i3;i7;i1;j2 2 5;j0 1 5;j3 4 5;");
        checks.due("of like ones the least SET", like.parts(5, 0), 3);
        checks.due("how much", like.parts(5, 1), 10);
        MindDuty more = Checks.made("g9 0;i50;i5;i5;i1;j0 0 3;j1 2 3;");
        checks.due("more IDEAS of less SIZE", more.parts(3, 0), 6);
        checks.due("how much", more.parts(3, 1), 10);
    }

    private void talkingDown() {
        MindDuty duty = Checks.made(TEXT);
        checks.due("talkDown(3, 4, 0)", duty.talkDown(3, 4, 0), 12);
        checks.due("talkDown(3, 4, 1)", duty.talkDown(3, 4, 1), 0);
        checks.due("talkDown(3, 2, 0)", duty.talkDown(3, 2, 0), 11);
        checks.due("talkDown(0, 4, 0)", duty.talkDown(0, 4, 0), 8);
        checks.due("talkDown(0, 4, 1)", duty.talkDown(0, 4, 1), 2);
        checks.due("talkDown(0, 0, 0): itself", duty.talkDown(0, 0, 0), 0);
        checks.due("talkDown(0, 0, 1): itself", duty.talkDown(0, 0, 1), Checks.NONE);
        checks.due("talkDown(4, 0, 0)", duty.talkDown(4, 0, 0), Checks.NONE);
        checks.due("talkDown(4, 0, 1)", duty.talkDown(4, 0, 1), Checks.NONE);
        checks.due("talkDown(0, 3, 0): not upwards", duty.talkDown(0, 3, 0), Checks.NONE);
        MindDuty like = Checks.made("g9 0;i9;i9;i9;i9;d0 3 9;d0 2 4;d2 3 5;d0 1 6;d1 3 3;d0 2 7;d3 0 1;");
        checks.due("three like ways", like.talkDown(0, 3, 0), 9);
        checks.due("of like ones the least", like.talkDown(0, 3, 1), 1);
        checks.due("talks in a circle", like.talkDown(3, 1, 0), 7);
        checks.due("the quickest of two", like.talkDown(0, 2, 0), 4);
        checks.due("itself in a circle", like.talkDown(3, 3, 1), Checks.NONE);
        MindDuty longest = Checks.made("g9 0;i9;i9;i9;i9;i9;i9;i9;i9;d6 7 9;d5 6 9;d4 5 9;d3 4 9;d2 3 9;d1 2 9;d0 1 9;d0 7 99;");
        checks.due("seven talks are sooner than one", longest.talkDown(0, 7, 0), 63);
        checks.due("the next of seven", longest.talkDown(0, 7, 1), 1);
    }

    private void soonest() {
        MindDuty duty = Checks.made(TEXT);
        checks.due("soonest(0): at the gate's own size", duty.soonest(0), 0);
        checks.due("soonest(1)", duty.soonest(1), 4);
        checks.due("soonest(3)", duty.soonest(3), 0);
        duty.goRound(1, false);
        checks.due("soonest(1) GONE", duty.soonest(1), Checks.NOT);
        MindDuty three = Checks.made("g9 0;i50;i40;i30;i20;i9;d0 1 5;d1 2 5;d2 3 5;d3 4 5;t2;t4;t1;t16;t10;");
        checks.due("three talks", three.soonest(0), 15);
        checks.due("two talks", three.soonest(1), 10);
        checks.due("four would be needed", three.soonest(2), Checks.NONE);
        checks.due("none is needed", three.soonest(3), 0);
        checks.due("one is met on the way", three.soonest(4), 15);
        MindDuty merged = Checks.made("g40 0;i40;i40;d0 1 7;d1 0 9;d0 1 8;t3;");
        checks.due("two become one", merged.soonest(0), 7);
        MindDuty dear = Checks.made("g9 0;i40;i30;i9;d0 2 99;d0 1 5;d1 2 5;t1;");
        checks.due("more talks of fewer minutes", dear.soonest(0), 10);
        MindDuty none = Checks.made("g9 0;i40;t1;");
        checks.due("no talk", none.soonest(0), Checks.NONE);
    }

    private void smallest() {
        MindDuty duty = Checks.made(TEXT);
        checks.due("smallest(0)", duty.smallest(0), 4);
        checks.due("smallest(1)", duty.smallest(1), 0);
        for (int i = 0; i < 5; i++) {
            duty.register(i, true);
        }
        checks.due("smallest(0) of all", duty.smallest(0), 7);
        checks.due("smallest(1) of all", duty.smallest(1), 25);
        for (int i = 0; i < 5; i++) {
            duty.register(i, false);
        }
        checks.due("smallest(0) of none", duty.smallest(0), 0);
        checks.due("smallest(1) of none", duty.smallest(1), 0);
        MindDuty circle = Checks.made("g9 0;i9;i9;i9;j1 1 2;j2 2 1;r2;");
        checks.due("of like ones the least, REGISTERED or not", circle.smallest(0), 2);
        circle.register(1, true);
        checks.due("each alone is needless", circle.smallest(1), 6);
        MindDuty other = Checks.made("g9 0;i9;i9;i9;j2 2 0;j2 2 1;j0 1 2;r0;r1;");
        checks.due("one that is not REGISTERED says the same", other.smallest(0), 4);
        checks.due("but none of these is needless", other.smallest(1), 0);
    }

    private void better() {
        MindDuty duty = Checks.made(TEXT);
        checks.due("better(0, 0)", duty.better(0, 0), 1);
        checks.due("better(0, 100)", duty.better(0, 100), 1);
        checks.due("better(0, 249): cut", duty.better(0, 249), 1);
        checks.due("better(0, 250): like", duty.better(0, 250), 0);
        checks.due("better(0, 9999)", duty.better(0, 9999), 0);
        checks.due("better(1, 9999): STUCK", duty.better(1, 9999), 1);
        checks.due("better(3, 0): nothing owed", duty.better(3, 0), 0);
        duty.pass(0);
        checks.due("better(0, 0) GONE", duty.better(0, 0), Checks.NOT);
        checks.due("better(0, 10000) GONE", duty.better(0, 10000), Checks.OUTSIDE);
        checks.due("better(0, -1)", duty.better(0, -1), Checks.OUTSIDE);
        checks.due("better(4, -1)", duty.better(4, -1), Checks.UNKNOWN);
    }

    private void gains() {
        MindDuty duty = Checks.made(TEXT);
        checks.due("gains(0, 4): the same", duty.gains(0, 4), 1000);
        checks.due("gains(0, 3)", duty.gains(0, 3), 1050);
        checks.due("gains(0, 12): what follows there", duty.gains(0, 12), 1030);
        checks.due("gains(1, 31): STUCK or not", duty.gains(1, 31), 1070);
        checks.due("gains(2, 0): he owes more there", duty.gains(2, 0), 1000 - 9 - 2);
        duty.goRound(2, false);
        checks.due("gains(2, 0) GONE", duty.gains(2, 0), Checks.NOT);
        checks.due("gains(2, 32) GONE", duty.gains(2, 32), Checks.UNKNOWN);
    }

    private void free() {
        MindDuty duty = Checks.made(TEXT);
        checks.due("free()", duty.free(), 16);
        duty.register(3, true);
        checks.due("free() behind register", duty.free(), 17);
        duty.register(4, true);
        checks.due("free() less what is REGISTERED", duty.free(), 1);
    }

    private void share() {
        MindDuty duty = Checks.made(TEXT);
        checks.due("share(0): cut", duty.share(0), 416);
        checks.due("share(1): STUCK, too", duty.share(1), 583);
        checks.due("share(2)", duty.share(2), 0);
        duty.goRound(1, false);
        checks.due("share(0) without who is GONE", duty.share(0), 1000);
        checks.due("share(1) GONE", duty.share(1), Checks.NOT);
        duty.goRound(0, true);
        checks.due("share(3) of nothing", duty.share(3), 0);
    }

    private void glacier() {
        MindDuty duty = Checks.made(TEXT);
        checks.due("glacier(0)", duty.glacier(0), 1000000000);
        checks.due("glacier(1)", duty.glacier(1), 800000000);
        checks.due("glacier(5)", duty.glacier(5), 327680000);
        checks.due("glacier(60)", duty.glacier(60), 1531);
        MindDuty hard = Checks.made("g1 99;");
        checks.due("glacier(4) at 99", hard.glacier(4), 10);
        checks.due("glacier(5) at 99", hard.glacier(5), 0);
        checks.due("glacier(60) at 99", hard.glacier(60), 0);
        checks.due("glacier(60) at 0", Checks.made("g1 0;").glacier(60), 1000000000);
        long odds = 1000000000;
        MindDuty seventh = Checks.made("g1 7;");
        for (int n = 0; n <= 60; n++) {
            checks.due("glacier(" + n + ") at 7", seventh.glacier(n), odds);
            odds = odds * 93 / 100;
        }
    }

    private void wrongNumbers() {
        MindDuty duty = Checks.made(TEXT);
        for (int wild : Checks.WILD) {
            if (wild < 0 || wild > 31) {
                checks.due("follows(" + wild + ")", duty.follows(wild), Checks.UNKNOWN);
                checks.due("owed(" + wild + ")", duty.owed(wild), Checks.UNKNOWN);
                checks.due("gains(0, " + wild + ")", duty.gains(0, wild), Checks.UNKNOWN);
            }
            if (wild < 0 || wild > 4) {
                checks.due("parts(" + wild + ", 2)", duty.parts(wild, 2), Checks.UNKNOWN);
                checks.due("talkDown(" + wild + ", 0, 2)", duty.talkDown(wild, 0, 2), Checks.UNKNOWN);
                checks.due("talkDown(0, " + wild + ", 2)", duty.talkDown(0, wild, 2), Checks.UNKNOWN);
            }
            if (wild < 0 || wild > 3) {
                checks.due("soonest(" + wild + ")", duty.soonest(wild), Checks.UNKNOWN);
                checks.due("better(" + wild + ", 0)", duty.better(wild, 0), Checks.UNKNOWN);
                checks.due("gains(" + wild + ", 0)", duty.gains(wild, 0), Checks.UNKNOWN);
                checks.due("share(" + wild + ")", duty.share(wild), Checks.UNKNOWN);
            }
            if (wild < 0 || wild > 1) {
                checks.due("parts(0, " + wild + ")", duty.parts(0, wild), Checks.OUTSIDE);
                checks.due("talkDown(0, 0, " + wild + ")", duty.talkDown(0, 0, wild), Checks.OUTSIDE);
                checks.due("smallest(" + wild + ")", duty.smallest(wild), Checks.OUTSIDE);
            }
            if (wild < 0 || wild > 9999) {
                checks.due("better(0, " + wild + ")", duty.better(0, wild), Checks.OUTSIDE);
            }
            if (wild < 0 || wild > 60) {
                checks.due("glacier(" + wild + ")", duty.glacier(wild), Checks.OUTSIDE);
            }
        }
    }

    private void nothingChanges() {
        MindDuty duty = Checks.made(TEXT);
        duty.seed(99);
        duty.pass(0);
        int[] before = new int[16];
        for (int what = 0; what <= 15; what++) {
            before[what] = duty.told(what);
        }
        for (int k = 0; k < 5; k++) {
            duty.follows(k);
            duty.owed(k);
            duty.parts(k, 0);
            duty.talkDown(3, k, 1);
            duty.soonest(k);
            duty.smallest(k & 1);
            duty.better(k, 77);
            duty.gains(k, 7);
            duty.free();
            duty.share(k);
            duty.glacier(k);
        }
        for (int what = 0; what <= 15; what++) {
            checks.due("told(" + what + ") behind all that is tried", duty.told(what), before[what]);
        }
        checks.due("THE SEED behind all that is tried", duty.seed(0), 99);
    }
}
