/** Promises 8 to 14: what travellers do, the register, years by draws, and what is undone. */
public final class DoneTest {
    private static final String TEXT = "g50 20;i30;i20;i9;i40;i5;j0 1 3;j2 2 4;j3 4 0;d3 0 4;d0 1 5;d0 2 7;d1 2 3;d2 4 1;d0 1 2;d0 1 8;r2;t3;t9;t20;t0;t11;";
    private final Checks checks = new Checks();

    public static void main(String[] args) {
        DoneTest test = new DoneTest();
        test.passing();
        test.goingRound();
        test.talking();
        test.coming();
        test.registering();
        test.drifting();
        test.driftingByHand();
        test.lostBelowTheOdds();
        test.undoing();
        test.wrongNumbers();
        test.refusalsChangeNothing();
        test.checks.end();
    }

    private void passing() {
        MindDuty duty = Checks.made(TEXT);
        checks.due("pass(1) STUCK", duty.pass(1), Checks.NOT);
        checks.due("pass(0) at the gate's own size", duty.pass(0), 50);
        checks.due("REGISTERED", duty.told(7), 7);
        checks.due("PAID", duty.told(11), 50);
        checks.due("GONE", duty.told(9), 1);
        checks.due("pass(0) GONE", duty.pass(0), Checks.NOT);
        checks.due("pass(3) with nothing in mind", duty.pass(3), 0);
        checks.due("pass(2) with what is there", duty.pass(2), 0);
        checks.due("REGISTERED of what is there", duty.told(7), 23);
        MindDuty halves = Checks.made("g99 0;i30;i21;i7;j0 0 1;j1 1 2;t7;t5;");
        checks.due("second thoughts are half, cut", halves.pass(0), 30 + 10 + 3);
        checks.due("what is there is free", halves.pass(1), 0);
        checks.due("PAID together", halves.told(11), 43);
    }

    private void goingRound() {
        MindDuty duty = Checks.made(TEXT);
        checks.due("goRound(0, false)", duty.goRound(0, false), 0);
        checks.due("lost: REGISTERED", duty.told(7), 4);
        checks.due("lost: GONE", duty.told(9), 1);
        checks.due("goRound(0, true) GONE", duty.goRound(0, true), Checks.NOT);
        checks.due("goRound(2, true) with what is there", duty.goRound(2, true), 0);
        checks.due("REGISTERED besides", duty.told(7), 20);
        checks.due("goRound(1, true) STUCK, with news", duty.goRound(1, true), 1);
        checks.due("REGISTERED news", duty.told(7), 29);
        checks.due("goRound(3, true) with nothing", duty.goRound(3, true), 0);
        checks.due("PAID", duty.told(11), 0);
        checks.due("GONE", duty.told(9), 15);
    }

    private void talking() {
        MindDuty duty = Checks.made(TEXT);
        checks.due("talk(0, 0, 1): the quickest of three", duty.talk(0, 0, 1), 2);
        checks.due("twice is once", duty.traveller(0, 0), 2);
        checks.due("talk(0, 0, 1) again", duty.talk(0, 0, 1), Checks.NOT);
        checks.due("talk(0, 1, 0): no such TALK", duty.talk(0, 1, 0), Checks.NOT);
        checks.due("talk(0, 1, 1): no such TALK", duty.talk(0, 1, 1), Checks.NOT);
        checks.due("talk(0, 1, 2)", duty.talk(0, 1, 2), 3);
        checks.due("his IDEAS", duty.traveller(0, 0), 4);
        checks.due("MINUTES", duty.told(12), 5);
        checks.due("REGISTERED stays", duty.told(7), 4);
        duty.pass(0);
        checks.due("talk(0, 2, 4) GONE", duty.talk(0, 2, 4), Checks.NOT);
        checks.due("talk(2, 2, 4): both were his", duty.talk(2, 2, 4), 1);
        checks.due("his one IDEA", duty.traveller(2, 0), 16);
        checks.due("STUCK ahead", duty.told(10), 18);
        checks.due("talk(1, 3, 0)", duty.talk(1, 3, 0), 4);
        checks.due("STUCK behind", duty.told(10), 16);
    }

    private void coming() {
        MindDuty duty = Checks.made(TEXT);
        checks.due("come(0, 1) not GONE", duty.come(0, 1), Checks.NOT);
        duty.pass(0);
        checks.due("come(0, 31)", duty.come(0, 31), 0);
        checks.due("his IDEAS", duty.traveller(0, 0), 31);
        checks.due("not GONE", duty.told(9), 0);
        checks.due("come(0, 31) again", duty.come(0, 31), Checks.NOT);
        duty.goRound(1, false);
        duty.register(0, false);
        duty.register(1, false);
        checks.due("come(1, 3): what he owes", duty.come(1, 3), 50);
        checks.due("come behind that, nothing PAID by it", duty.told(11), 50);
        duty.goRound(0, false);
        checks.due("come(0, 0)", duty.come(0, 0), 0);
    }

    private void registering() {
        MindDuty duty = Checks.made(TEXT);
        checks.due("register(0, true)", duty.register(0, true), 0);
        checks.due("register(0, true) again", duty.register(0, true), 1);
        checks.due("register(2, false)", duty.register(2, false), 1);
        checks.due("register(2, false) again", duty.register(2, false), 0);
        checks.due("REGISTERED", duty.told(7), 1);
        checks.due("IN THE COUNTRY", duty.told(8), 1);
        checks.due("register(1, true)", duty.register(1, true), 0);
        checks.due("IN THE COUNTRY, joined", duty.told(8), 11);
        checks.due("how many can be undone", duty.told(15), 5);
    }

    private void drifting() {
        MindDuty empty = Checks.made("g50 20;");
        checks.due("drift(5) without anything", empty.drift(5), 0);
        checks.due("no DRAW without anything", empty.seed(0), 0);
        checks.due("it can be undone", empty.undo(), 0);
        MindDuty alone = Checks.made("g50 20;t0;");
        alone.drift(5);
        checks.due("no DRAW without IDEAS", alone.seed(0), 0);
        MindDuty nobody = Checks.made("g50 20;i5;");
        nobody.drift(5);
        checks.due("no DRAW without TRAVELLERS", nobody.seed(0), 0);
        MindDuty duty = Checks.made(TEXT);
        checks.due("drift(0)", duty.drift(0), Checks.OUTSIDE);
        checks.due("drift(61)", duty.drift(61), Checks.OUTSIDE);
        checks.due("drift(0) without a PASS", new MindDuty().drift(0), Checks.OUTSIDE);
        checks.due("drift(60) without a PASS", new MindDuty().drift(60), Checks.NOT);
        duty.seed(0);
        duty.register(2, false);
        duty.pass(0);
        int paid = duty.drift(60);
        checks.due("drift answers all that is PAID", paid, duty.told(11));
        checks.holds("what was PAID ahead counts too", paid >= 50);
    }

    /** The same days, made by hand here, one by one. */
    private void driftingByHand() {
        int[] sizes = {30, 20, 10};
        int[] mind = {0, 7};
        int registered = 0;
        int paid = 0;
        int lost = 0;
        long lot = 2147483647L;
        MindDuty duty = Checks.made("g45 60;i30;i20;i10;t0;t7;");
        duty.seed(2147483647);
        for (int day = 0; day < 60; day++) {
            lot = nextLot(lot);
            int t = (int) (lot / 65536 % 2);
            lot = nextLot(lot);
            mind[t] = (int) (lot / 65536 % 8);
            boolean through = true;
            if (sizeOf(mind[t], sizes) > 45) {
                lot = nextLot(lot);
                through = lot / 65536 % 100 >= 60;
                lost += through ? 0 : 1;
            } else {
                paid += sizeOf(mind[t] & ~registered, sizes);
            }
            registered |= through ? mind[t] : 0;
            checks.due("day " + day + ": drift(1)", duty.drift(1), paid);
            checks.due("day " + day + ": REGISTERED", duty.told(7), registered);
            checks.due("day " + day + ": IDEAS of 0", duty.traveller(0, 0), mind[0]);
            checks.due("day " + day + ": IDEAS of 1", duty.traveller(1, 0), mind[1]);
            checks.due("day " + day + ": GONE", duty.told(9) >> t & 1, 1);
            int struck = day % 3;
            duty.register(struck, false);
            registered &= ~(1 << struck);
        }
        checks.holds("someone was lost on these days", lost > 0);
        checks.due("THE SEED", duty.seed(0), lot);
    }

    /** One TRAVELLER, one IDEA too large for the gate: a DRAW of just Q brings him through, one less does not. */
    private void lostBelowTheOdds() {
        int[] met = new int[2];
        for (int lot = 0; lot < 20000; lot++) {
            long mind = nextLot(nextLot(lot));
            int last = (int) (nextLot(mind) / 65536 % 100);
            if (mind / 65536 % 2 == 1 && (last == 37 || last == 36)) {
                MindDuty duty = Checks.made("g5 37;i6;t0;");
                duty.seed(lot);
                checks.due("drift(1) of " + lot, duty.drift(1), 0);
                checks.due("REGISTERED by a DRAW of " + last, duty.told(7), last - 36);
                checks.due("GONE either way", duty.told(9), 1);
                met[last - 36]++;
            }
        }
        checks.holds("both were met", met[0] > 0 && met[1] > 0);
    }

    private static long nextLot(long lot) {
        return (lot * 1103515245L + 12345L) % 2147483648L;
    }

    private static int sizeOf(int set, int[] sizes) {
        int together = 0;
        for (int i = 0; i < sizes.length; i++) {
            together += (set >> i & 1) * sizes[i];
        }
        return together;
    }

    private void undoing() {
        MindDuty duty = Checks.made(TEXT);
        checks.due("undo() of nothing", duty.undo(), Checks.NOT);
        duty.pass(0);
        duty.goRound(1, true);
        duty.come(0, 5);
        duty.talk(0, 0, 1);
        duty.register(3, false);
        duty.seed(8);
        duty.drift(3);
        int lot = duty.seed(8);
        duty.seed(lot);
        checks.due("undo() of drift", duty.undo(), 5);
        checks.due("THE SEED stays", duty.seed(lot), lot);
        checks.due("GONE ahead of drift", duty.told(9), 2);
        checks.due("undo() of register", duty.undo(), 4);
        checks.due("REGISTERED ahead of it", duty.told(7), 15);
        checks.due("undo() of talk", duty.undo(), 3);
        checks.due("his IDEAS ahead of it", duty.traveller(0, 0), 5);
        checks.due("MINUTES ahead of it", duty.told(12), 0);
        checks.due("undo() of come", duty.undo(), 2);
        checks.due("his IDEAS ahead of it", duty.traveller(0, 0), 3);
        checks.due("GONE ahead of it", duty.told(9), 3);
        checks.due("undo() of goRound", duty.undo(), 1);
        checks.due("GONE ahead of it", duty.told(9), 1);
        checks.due("PAID ahead of it", duty.told(11), 50);
        checks.due("undo() of pass", duty.undo(), 0);
        checks.due("PAID ahead of it", duty.told(11), 0);
        checks.due("REGISTERED ahead of it", duty.told(7), 4);
        checks.due("undo() of nothing more", duty.undo(), Checks.NOT);
        undoingTwenty(duty);
    }

    private void undoingTwenty(MindDuty duty) {
        for (int k = 0; k < 27; k++) {
            duty.register(k % 5, true);
            duty.register(k % 5, false);
        }
        duty.register(0, true);
        checks.due("20 at most are kept", duty.told(15), 20);
        for (int k = 19; k >= 0; k--) {
            checks.due("undo()", duty.undo(), k);
            checks.due("REGISTERED", duty.told(7) == 0 ? 0 : 1, k % 2 == 0 ? 1 : 0);
        }
        checks.due("undo() of what is lost", duty.undo(), Checks.NOT);
        checks.due("what is asked or written is not undone", duty.ask(1, 0, true) + duty.write(1, 1), 2);
        checks.due("undo() of that", duty.undo(), Checks.NOT);
    }

    private void wrongNumbers() {
        MindDuty duty = Checks.made(TEXT);
        duty.goRound(4, false);
        for (int wild : Checks.WILD) {
            boolean traveller = wild >= 0 && wild < 5;
            boolean idea = wild >= 0 && wild < 5;
            boolean set = wild >= 0 && wild < 32;
            if (!traveller) {
                checks.due("pass(" + wild + ")", duty.pass(wild), Checks.UNKNOWN);
                checks.due("goRound(" + wild + ")", duty.goRound(wild, true), Checks.UNKNOWN);
                checks.due("talk(" + wild + ", 0, 1)", duty.talk(wild, 0, 1), Checks.UNKNOWN);
                checks.due("come(" + wild + ", 0)", duty.come(wild, 0), Checks.UNKNOWN);
            }
            if (!idea) {
                checks.due("talk(4, " + wild + ", 1)", duty.talk(4, wild, 1), Checks.UNKNOWN);
                checks.due("talk(4, 0, " + wild + ")", duty.talk(4, 0, wild), Checks.UNKNOWN);
                checks.due("register(" + wild + ")", duty.register(wild, true), Checks.UNKNOWN);
            }
            if (!set) {
                checks.due("come(4, " + wild + ")", duty.come(4, wild), Checks.UNKNOWN);
                checks.due("come(0, " + wild + ")", duty.come(0, wild), Checks.UNKNOWN);
            }
            if (wild < 1 || wild > 60) {
                checks.due("drift(" + wild + ")", duty.drift(wild), Checks.OUTSIDE);
            }
        }
        checks.due("how many can be undone", duty.told(15), 1);
    }

    private void refusalsChangeNothing() {
        MindDuty duty = Checks.made(TEXT);
        duty.pass(0);
        int[] before = new int[16];
        for (int what = 0; what <= 15; what++) {
            before[what] = duty.told(what);
        }
        duty.pass(0);
        duty.pass(1);
        duty.goRound(0, true);
        duty.talk(0, 0, 1);
        duty.talk(1, 1, 2);
        duty.talk(1, 0, 3);
        duty.come(1, 5);
        duty.come(0, 32);
        duty.register(5, true);
        duty.drift(61);
        for (int what = 0; what <= 15; what++) {
            checks.due("told(" + what + ") behind refusals", duty.told(what), before[what]);
        }
    }
}
