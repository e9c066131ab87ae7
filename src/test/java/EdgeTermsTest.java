/** 'Terms', the document's head: what holds of every call. */
public final class EdgeTermsTest extends Sentences {
    private static final int UNKNOWN = Checks.UNKNOWN;
    private static final int OUTSIDE = Checks.OUTSIDE;
    private static final int NOT = Checks.NOT;
    private static final int FULL = Checks.FULL;
    private static final int LEAST = Integer.MIN_VALUE;
    private static final int MOST = Integer.MAX_VALUE;

    public static void main(String[] args) {
        new EdgeTermsTest().runAll();
    }

    @Says("Terms: All numbers are whole; / cuts towards 0.")
    void cutsTowardsNothing() {
        MindDuty half = Checks.made("g999 0;i1;i3;i99;i2;j3 3 0;j3 3 1;j3 3 2;");
        due("half of 1", half.owed(9) - half.owed(8), 0);
        due("half of 3", half.owed(10) - half.owed(8), 1);
        due("half of 99", half.owed(12) - half.owed(8), 49);
        MindDuty odds = Checks.made("g9 1;i2;i1;t1;t2;");
        due("199 / 100 is less than 2", odds.better(0, 199), 1);
        due("200 / 100 is not", odds.better(0, 200), 0);
        due("99 / 100 is less than 1", odds.better(1, 99), 1);
        due("100 / 100 is not", odds.better(1, 100), 0);
        MindDuty thirds = Checks.made("g9 0;i1;i2;t1;t2;");
        due("1000 / 3", thirds.share(0), 333);
        due("2000 / 3", thirds.share(1), 666);
        due("10 / 100", Checks.made("g9 99;").glacier(5), 0);
    }

    @Says("Terms: What has a number has it from 0 on, as it comes.")
    void numbersFromNothingOn() {
        MindDuty duty = Checks.made("g9 0;i3;t1;i7;i5;t4;");
        due("size(-1)", duty.size(-1), UNKNOWN);
        due("size(0)", duty.size(0), 3);
        due("size(1)", duty.size(1), 7);
        due("size(2)", duty.size(2), 5);
        due("size(3)", duty.size(3), UNKNOWN);
        due("traveller(-1, 0)", duty.traveller(-1, 0), UNKNOWN);
        due("traveller(0, 0)", duty.traveller(0, 0), 1);
        due("traveller(1, 0)", duty.traveller(1, 0), 4);
        due("traveller(2, 0)", duty.traveller(2, 0), UNKNOWN);
        duty.write(0, 1);
        due("the first entry", duty.judge(), 0);
        due("a fault at the first letter", Checks.read(duty, "x"), -11);
        due("it is letter", duty.fault(), 0);
    }

    @Says("Terms: A SET is a whole number, bit k for k (of IDEAS, if nothing else is told).")
    void bitsOfSets() {
        for (int k = 0; k < 8; k++) {
            MindDuty duty = Checks.made("g7 0;i1;i2;i3;i4;i5;i6;i7;i8;t0;t0;t0;t0;t0;");
            due("owed(" + (1 << k) + ")", duty.owed(1 << k), k + 1);
            due("follows(" + (1 << k) + ")", duty.follows(1 << k), 1 << k);
            duty.register(k, true);
            due("told(7) of " + k, duty.told(7), 1 << k);
            due("told(8) of " + k, duty.told(8), 1 << k);
            duty.ask(1 << k, 0, true);
            due("minds(1) of " + k, duty.minds(1), 1 << k);
            int t = k % 5;
            duty.goRound(t, false);
            due("told(9) of TRAVELLER " + t, duty.told(9), 1 << t);
            duty.come(t, 128);
            due("traveller(" + t + ", 1) with IDEA 7", duty.traveller(t, 1), 8);
            due("told(10) of TRAVELLER " + t, duty.told(10), 1 << t);
        }
    }

    @Says("Terms: NONE is -1.")
    void noneIsLessOne() {
        due("NONE", MindDuty.NONE, -1);
        due("fault()", none().fault(), -1);
        due("askNext()", none().askNext(), -1);
        due("judge()", none().judge(), -1);
        due("parts(1, 0)", some().parts(1, 0), -1);
        due("talkDown(4, 0, 0)", some().talkDown(4, 0, 0), -1);
    }

    @Says("Terms: REFUSALS, of several the first in this order:")
    void unknownAheadOfOutside() {
        refused("traveller(4, 4)", Sentences::rich, x -> x.traveller(4, 4), UNKNOWN);
        refused("traveller(-1, -1)", Sentences::rich, x -> x.traveller(-1, -1), UNKNOWN);
        refused("parts(5, 2)", Sentences::rich, x -> x.parts(5, 2), UNKNOWN);
        refused("parts(-1, -1)", Sentences::rich, x -> x.parts(-1, -1), UNKNOWN);
        refused("talkDown(5, 0, 2)", Sentences::rich, x -> x.talkDown(5, 0, 2), UNKNOWN);
        refused("talkDown(0, 5, 2)", Sentences::rich, x -> x.talkDown(0, 5, 2), UNKNOWN);
        refused("talkDown(0, -1, -1)", Sentences::rich, x -> x.talkDown(0, -1, -1), UNKNOWN);
        refused("better(4, 10000)", Sentences::rich, x -> x.better(4, 10000), UNKNOWN);
        refused("better(-1, -1)", Sentences::rich, x -> x.better(-1, -1), UNKNOWN);
        refused("ask(32, 11, true)", Sentences::rich, x -> x.ask(32, 11, true), UNKNOWN);
        refused("ask(-1, -1, true)", Sentences::rich, x -> x.ask(-1, -1, true), UNKNOWN);
        refused("write(5, 2)", Sentences::rich, x -> x.write(5, 2), UNKNOWN);
        refused("write(-1, -1)", Sentences::rich, x -> x.write(-1, -1), UNKNOWN);
        due("new: traveller(0, 4)", none().traveller(0, 4), UNKNOWN);
        due("new: parts(0, 2)", none().parts(0, 2), UNKNOWN);
        due("new: talkDown(0, 0, 2)", none().talkDown(0, 0, 2), UNKNOWN);
        due("new: better(0, 10000)", none().better(0, 10000), UNKNOWN);
        due("new: ask(1, 11, true)", none().ask(1, 11, true), UNKNOWN);
        due("new: write(0, 2)", none().write(0, 2), UNKNOWN);
    }

    /** TRAVELLER 2 is GONE, 0 is not. */
    @Says("Terms: REFUSALS, of several the first in this order:")
    void unknownAheadOfNot() {
        due("2 is GONE", rich().told(9), 4);
        refused("talk(2, 5, 0)", Sentences::rich, x -> x.talk(2, 5, 0), UNKNOWN);
        refused("talk(2, 0, 5)", Sentences::rich, x -> x.talk(2, 0, 5), UNKNOWN);
        refused("talk(0, 1, 5): he has it not", Sentences::rich, x -> x.talk(0, 1, 5), UNKNOWN);
        refused("talk(0, 0, -1): no such TALK", Sentences::rich, x -> x.talk(0, 0, -1), UNKNOWN);
        refused("talk(4, 4, 0): no such TALK", Sentences::rich, x -> x.talk(4, 4, 0), UNKNOWN);
        refused("come(0, 32)", Sentences::rich, x -> x.come(0, 32), UNKNOWN);
        refused("come(0, -1)", Sentences::rich, x -> x.come(0, -1), UNKNOWN);
        refused("gains(2, 32)", Sentences::rich, x -> x.gains(2, 32), UNKNOWN);
        refused("gains(2, -1)", Sentences::rich, x -> x.gains(2, -1), UNKNOWN);
        refused("goBack(2), not kept", Sentences::some, x -> x.goBack(2), UNKNOWN);
        refused("goBack(-1), not kept", Sentences::some, x -> x.goBack(-1), UNKNOWN);
    }

    @Says("Terms: REFUSALS, of several the first in this order:")
    void unknownAheadOfFull() {
        refused("ask(4, 0, true)", Sentences::full, x -> x.ask(4, 0, true), UNKNOWN);
        refused("ask(4, 11, true)", Sentences::full, x -> x.ask(4, 11, true), UNKNOWN);
        refused("write(2, 0)", Sentences::full, x -> x.write(2, 0), UNKNOWN);
        refused("write(2, 2)", Sentences::full, x -> x.write(2, 2), UNKNOWN);
    }

    @Says("Terms: REFUSALS, of several the first in this order:")
    void outsideAheadOfNot() {
        refused("new: drift(0)", Sentences::none, x -> x.drift(0), OUTSIDE);
        refused("new: drift(61)", Sentences::none, x -> x.drift(61), OUTSIDE);
        refused("better(2, -1) GONE", Sentences::rich, x -> x.better(2, -1), OUTSIDE);
        refused("better(2, 10000) GONE", Sentences::rich, x -> x.better(2, 10000), OUTSIDE);
    }

    @Says("Terms: REFUSALS, of several the first in this order:")
    void outsideAheadOfFull() {
        refused("feed(-1)", Sentences::full, x -> x.feed(-1), OUTSIDE);
        refused("feed(256)", Sentences::full, x -> x.feed(256), OUTSIDE);
        refused("ask(3, -1, true)", Sentences::full, x -> x.ask(3, -1, true), OUTSIDE);
        refused("ask(3, 11, true)", Sentences::full, x -> x.ask(3, 11, true), OUTSIDE);
        refused("write(0, -1)", Sentences::full, x -> x.write(0, -1), OUTSIDE);
        refused("write(0, 2)", Sentences::full, x -> x.write(0, 2), OUTSIDE);
    }

    private void noSuchIdea(MindDuty duty, int i) {
        due("size(" + i + ")", duty.size(i), UNKNOWN);
        due("register(" + i + ")", duty.register(i, true), UNKNOWN);
        due("parts(" + i + ", 0)", duty.parts(i, 0), UNKNOWN);
        due("talkDown(" + i + ", " + i + ", 0)", duty.talkDown(i, i, 0), UNKNOWN);
        due("write(" + i + ", 0)", duty.write(i, 0), UNKNOWN);
        if (duty.told(2) > 0) {
            due("talkDown(" + i + ", 0, 0)", duty.talkDown(i, 0, 0), UNKNOWN);
            due("talkDown(0, " + i + ", 0)", duty.talkDown(0, i, 0), UNKNOWN);
            due("talk(0, " + i + ", 0)", duty.talk(0, i, 0), UNKNOWN);
            due("talk(0, 0, " + i + ")", duty.talk(0, 0, i), UNKNOWN);
        }
    }

    private void noSuchTraveller(MindDuty duty, int t) {
        due("traveller(" + t + ", 0)", duty.traveller(t, 0), UNKNOWN);
        due("pass(" + t + ")", duty.pass(t), UNKNOWN);
        due("goRound(" + t + ", true)", duty.goRound(t, true), UNKNOWN);
        due("goRound(" + t + ", false)", duty.goRound(t, false), UNKNOWN);
        due("talk(" + t + ", 0, 0)", duty.talk(t, 0, 0), UNKNOWN);
        due("come(" + t + ", 0)", duty.come(t, 0), UNKNOWN);
        due("soonest(" + t + ")", duty.soonest(t), UNKNOWN);
        due("better(" + t + ", 0)", duty.better(t, 0), UNKNOWN);
        due("gains(" + t + ", 0)", duty.gains(t, 0), UNKNOWN);
        due("share(" + t + ")", duty.share(t), UNKNOWN);
    }

    @Says("Terms: UNKNOWN (an IDEA, TRAVELLER, IMAGE that there is not;")
    void unknownIdeas() {
        for (int i : new int[] {LEAST, -8, -1, 0, 1, 7, 8, 31, 32, MOST}) {
            noSuchIdea(none(), i);
            noSuchIdea(bare(), i);
        }
        for (int i : new int[] {LEAST, -32, -1, 5, 8, 32, 33, MOST}) {
            noSuchIdea(some(), i);
        }
        for (int i : new int[] {LEAST, -1, 8, 9, 32, MOST}) {
            noSuchIdea(eight(), i);
        }
        due("the last of five", some().size(4), 5);
        due("the last of eight", eight().size(7), 8);
        due("register(7)", eight().register(7, true), 0);
        due("parts(7, 0)", eight().parts(7, 0), Checks.NONE);
        due("talkDown(7, 7, 0)", eight().talkDown(7, 7, 0), 0);
        due("write(7, 0)", eight().write(7, 0), 1);
        due("talk(4, 7, 0)", eight().talk(4, 7, 0), 5);
    }

    @Says("Terms: UNKNOWN (an IDEA, TRAVELLER, IMAGE that there is not;")
    void unknownTravellers() {
        for (int t : new int[] {LEAST, -1, 0, 1, 4, 5, 32, MOST}) {
            noSuchTraveller(none(), t);
            noSuchTraveller(bare(), t);
        }
        for (int t : new int[] {LEAST, -32, -1, 4, 5, 32, 33, MOST}) {
            noSuchTraveller(some(), t);
        }
        for (int t : new int[] {LEAST, -1, 5, 6, 32, MOST}) {
            noSuchTraveller(eight(), t);
        }
        due("the last of four", some().traveller(3, 0), 0);
        due("the last of five", eight().traveller(4, 0), 129);
        due("pass(4)", eight().pass(4), 9);
        due("goRound(4, false)", eight().goRound(4, false), 0);
        due("soonest(4)", eight().soonest(4), 0);
        due("better(4, 9999)", eight().better(4, 9999), 0);
        due("gains(4, 0)", eight().gains(4, 0), 1000);
        due("share(0): of 1, 2, 3, 0, 9", eight().share(0), 66);
        due("share(4)", eight().share(4), 600);
    }

    @Says("Terms: UNKNOWN (an IDEA, TRAVELLER, IMAGE that there is not;")
    void unknownImages() {
        for (int i : new int[] {LEAST, -2, -1, 2, 3, 32, MOST}) {
            refused("keep(" + i + ")", Sentences::rich, x -> x.keep(i), UNKNOWN);
            refused("goBack(" + i + ")", Sentences::rich, x -> x.goBack(i), UNKNOWN);
            refused("new: keep(" + i + ")", Sentences::none, x -> x.keep(i), UNKNOWN);
            refused("new: goBack(" + i + ")", Sentences::none, x -> x.goBack(i), UNKNOWN);
        }
        due("keep(0)", rich().keep(0), 1);
        due("keep(1)", rich().keep(1), 1);
        due("goBack(0)", rich().goBack(0), 1);
        due("goBack(1)", rich().goBack(1), 1);
    }

    private void noSuchSet(MindDuty duty, int set) {
        due("follows(" + set + ")", duty.follows(set), UNKNOWN);
        due("owed(" + set + ")", duty.owed(set), UNKNOWN);
        due("ask(" + set + ", 0, true)", duty.ask(set, 0, true), UNKNOWN);
        if (duty.told(5) > 0) {
            due("gains(1, " + set + ")", duty.gains(1, set), UNKNOWN);
            duty.goRound(0, false);
            due("come(0, " + set + ")", duty.come(0, set), UNKNOWN);
        }
    }

    private void suchSet(MindDuty duty, int set, int travellers) {
        due("follows(" + set + ")", duty.follows(set), set);
        holds("owed(" + set + ")", duty.owed(set) >= 0);
        due("ask(" + set + ", 0, true)", duty.ask(set, 0, true), 1);
        if (travellers > 0) {
            holds("gains(1, " + set + ")", duty.gains(1, set) >= 0);
            duty.goRound(0, false);
            holds("come(0, " + set + ")", duty.come(0, set) >= 0);
            due("his IDEAS", duty.traveller(0, 0), set);
        }
    }

    @Says("Terms: bits of such)")
    void bitsOfUnknownIdeas() {
        for (int set : new int[] {LEAST, LEAST + 1, -256, -1, 256, 257, 511, 1 << 30, MOST}) {
            noSuchSet(none(), set);
            noSuchSet(bare(), set);
            noSuchSet(some(), set);
            noSuchSet(eight(), set);
        }
        for (int set = 1; set < 256; set++) {
            noSuchSet(none(), set);
            noSuchSet(bare(), set);
        }
        for (int set = 32; set < 256; set++) {
            noSuchSet(some(), set);
        }
        suchSet(none(), 0, 0);
        suchSet(bare(), 0, 0);
        suchSet(some(), 31, 4);
        suchSet(some(), 0, 4);
        suchSet(eight(), 255, 5);
        suchSet(eight(), 0, 5);
        MindDuty one = Checks.made("g9 0;i5;t0;t0;");
        suchSet(one, 1, 2);
        noSuchSet(one, 2);
        noSuchSet(one, 3);
    }

    @Says("Terms: OUTSIDE (another number out of its bounds)")
    void outOfBounds() {
        for (int far : new int[] {LEAST, -1000, -1, MOST}) {
            due("feed(" + far + ")", some().feed(far), OUTSIDE);
            due("told(" + far + ")", some().told(far), OUTSIDE);
            due("traveller(0, " + far + ")", some().traveller(0, far), OUTSIDE);
            due("drift(" + far + ")", some().drift(far), OUTSIDE);
            due("parts(0, " + far + ")", some().parts(0, far), OUTSIDE);
            due("talkDown(0, 0, " + far + ")", some().talkDown(0, 0, far), OUTSIDE);
            due("smallest(" + far + ")", some().smallest(far), OUTSIDE);
            due("better(0, " + far + ")", some().better(0, far), OUTSIDE);
            due("glacier(" + far + ")", some().glacier(far), OUTSIDE);
            due("ask(0, " + far + ", true)", some().ask(0, far, true), OUTSIDE);
            due("minds(" + far + ")", some().minds(far), OUTSIDE);
            due("write(0, " + far + ")", some().write(0, far), OUTSIDE);
        }
        due("seed(MIN)", some().seed(LEAST), OUTSIDE);
        due("seed(-1)", some().seed(-1), OUTSIDE);
    }

    @Says("Terms: NOT (not now, as told), FULL.")
    void notNowAndFull() {
        due("new: undo()", none().undo(), NOT);
        due("new: drift(1)", none().drift(1), NOT);
        due("new: goBack(0)", none().goBack(0), NOT);
        due("pass(1): STUCK", some().pass(1), NOT);
        due("come(0, 0): he is not GONE", some().come(0, 0), NOT);
        due("feed(32) behind 240", full().feed(32), FULL);
        due("ask(0, 0, true) behind 6", full().ask(0, 0, true), FULL);
        due("write(0, 0) behind 15", full().write(0, 0), FULL);
    }

    @Says("Terms: They are far below all that is counted: -1000000001 and on.")
    void constants() {
        due("UNKNOWN", MindDuty.UNKNOWN, -1000000001);
        due("OUTSIDE", MindDuty.OUTSIDE, -1000000002);
        due("NOT", MindDuty.NOT, -1000000003);
        due("FULL", MindDuty.FULL, -1000000004);
    }

    @Says("Terms: What is refused changes nothing.")
    void refusedInANewObject() {
        refused("feed(-1)", Sentences::none, x -> x.feed(-1), OUTSIDE);
        refused("feed(256)", Sentences::none, x -> x.feed(256), OUTSIDE);
        refused("told(-1)", Sentences::none, x -> x.told(-1), OUTSIDE);
        refused("told(16)", Sentences::none, x -> x.told(16), OUTSIDE);
        refused("pass(0)", Sentences::none, x -> x.pass(0), UNKNOWN);
        refused("goRound(0, true)", Sentences::none, x -> x.goRound(0, true), UNKNOWN);
        refused("talk(0, 0, 0)", Sentences::none, x -> x.talk(0, 0, 0), UNKNOWN);
        refused("come(0, 0)", Sentences::none, x -> x.come(0, 0), UNKNOWN);
        refused("register(0, true)", Sentences::none, x -> x.register(0, true), UNKNOWN);
        refused("drift(1)", Sentences::none, x -> x.drift(1), NOT);
        refused("drift(60)", Sentences::none, x -> x.drift(60), NOT);
        refused("undo()", Sentences::none, x -> x.undo(), NOT);
        refused("ask(1, 0, true)", Sentences::none, x -> x.ask(1, 0, true), UNKNOWN);
        refused("ask(0, 11, true)", Sentences::none, x -> x.ask(0, 11, true), OUTSIDE);
        refused("minds(3)", Sentences::none, x -> x.minds(3), OUTSIDE);
        refused("write(0, 0)", Sentences::none, x -> x.write(0, 0), UNKNOWN);
        refused("seed(-1)", Sentences::none, x -> x.seed(-1), OUTSIDE);
        refused("keep(2)", Sentences::none, x -> x.keep(2), UNKNOWN);
        refused("goBack(0)", Sentences::none, x -> x.goBack(0), NOT);
        refused("goBack(1)", Sentences::none, x -> x.goBack(1), NOT);
    }

    /** TRAVELLER 0 is STUCK, 2 is GONE, 1 has IDEA 0 alone, 3 has nothing. */
    @Says("Terms: What is refused changes nothing.")
    void refusedOfWhatIsDone() {
        refused("pass(0): STUCK", Sentences::rich, x -> x.pass(0), NOT);
        refused("pass(2): GONE", Sentences::rich, x -> x.pass(2), NOT);
        refused("pass(4)", Sentences::rich, x -> x.pass(4), UNKNOWN);
        refused("goRound(2, true): GONE", Sentences::rich, x -> x.goRound(2, true), NOT);
        refused("goRound(2, false): GONE", Sentences::rich, x -> x.goRound(2, false), NOT);
        refused("goRound(4, true)", Sentences::rich, x -> x.goRound(4, true), UNKNOWN);
        refused("talk(2, 2, 4): GONE", Sentences::rich, x -> x.talk(2, 2, 4), NOT);
        refused("talk(1, 3, 0): he has it not", Sentences::rich, x -> x.talk(1, 3, 0), NOT);
        refused("talk(0, 0, 3): no such TALK", Sentences::rich, x -> x.talk(0, 0, 3), NOT);
        refused("talk(4, 0, 1)", Sentences::rich, x -> x.talk(4, 0, 1), UNKNOWN);
        refused("talk(0, 5, 1)", Sentences::rich, x -> x.talk(0, 5, 1), UNKNOWN);
        refused("talk(0, 0, 5)", Sentences::rich, x -> x.talk(0, 0, 5), UNKNOWN);
        refused("come(0, 1): not GONE", Sentences::rich, x -> x.come(0, 1), NOT);
        refused("come(2, 32)", Sentences::rich, x -> x.come(2, 32), UNKNOWN);
        refused("come(4, 1)", Sentences::rich, x -> x.come(4, 1), UNKNOWN);
        refused("register(5, true)", Sentences::rich, x -> x.register(5, true), UNKNOWN);
        refused("register(-1, false)", Sentences::rich, x -> x.register(-1, false), UNKNOWN);
        refused("drift(0)", Sentences::rich, x -> x.drift(0), OUTSIDE);
        refused("drift(61)", Sentences::rich, x -> x.drift(61), OUTSIDE);
        refused("undo()", Sentences::some, x -> x.undo(), NOT);
    }

    @Says("Terms: What is refused changes nothing.")
    void refusedOfTheRest() {
        refused("feed(-1)", Sentences::rich, x -> x.feed(-1), OUTSIDE);
        refused("feed(256)", Sentences::rich, x -> x.feed(256), OUTSIDE);
        refused("told(16)", Sentences::rich, x -> x.told(16), OUTSIDE);
        refused("size(5)", Sentences::rich, x -> x.size(5), UNKNOWN);
        refused("traveller(0, 4)", Sentences::rich, x -> x.traveller(0, 4), OUTSIDE);
        refused("traveller(4, 0)", Sentences::rich, x -> x.traveller(4, 0), UNKNOWN);
        refused("follows(32)", Sentences::rich, x -> x.follows(32), UNKNOWN);
        refused("owed(32)", Sentences::rich, x -> x.owed(32), UNKNOWN);
        refused("soonest(2): GONE", Sentences::rich, x -> x.soonest(2), NOT);
        refused("smallest(2)", Sentences::rich, x -> x.smallest(2), OUTSIDE);
        refused("better(2, 5): GONE", Sentences::rich, x -> x.better(2, 5), NOT);
        refused("gains(2, 5): GONE", Sentences::rich, x -> x.gains(2, 5), NOT);
        refused("share(2): GONE", Sentences::rich, x -> x.share(2), NOT);
        refused("glacier(61)", Sentences::rich, x -> x.glacier(61), OUTSIDE);
        refused("minds(3)", Sentences::rich, x -> x.minds(3), OUTSIDE);
        refused("ask(32, 0, true)", Sentences::rich, x -> x.ask(32, 0, true), UNKNOWN);
        refused("ask(1, 11, true)", Sentences::rich, x -> x.ask(1, 11, true), OUTSIDE);
        refused("write(5, 0)", Sentences::rich, x -> x.write(5, 0), UNKNOWN);
        refused("write(1, 2)", Sentences::rich, x -> x.write(1, 2), OUTSIDE);
        refused("seed(-1)", Sentences::rich, x -> x.seed(-1), OUTSIDE);
    }

    @Says("Terms: What is refused changes nothing.")
    void refusedWhereItIsFull() {
        refused("feed(120)", Sentences::full, x -> x.feed(120), FULL);
        refused("ask(3, 1, true)", Sentences::full, x -> x.ask(3, 1, true), FULL);
        refused("ask(3, 1, false)", Sentences::full, x -> x.ask(3, 1, false), FULL);
        refused("write(0, 1)", Sentences::full, x -> x.write(0, 1), FULL);
        refused("write(1, 0)", Sentences::full, x -> x.write(1, 0), FULL);
        refused("pass(1): GONE", Sentences::full, x -> x.pass(1), NOT);
        refused("drift(61)", Sentences::full, x -> x.drift(61), OUTSIDE);
        refused("keep(2)", Sentences::full, x -> x.keep(2), UNKNOWN);
        refused("goBack(2)", Sentences::full, x -> x.goBack(2), UNKNOWN);
    }

    @Says("Terms: BILLION is 1000000000.")
    void billion() {
        due("glacier(0)", some().glacier(0), 1000000000);
    }
}
