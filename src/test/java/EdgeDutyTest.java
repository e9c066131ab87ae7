/** Section 2: what follows, what is owed, and what travellers do. */
public final class EdgeDutyTest extends Sentences {
    private static final int NOT = Checks.NOT;
    private static final int COUNTED = 999999;

    public static void main(String[] args) {
        new EdgeDutyTest().runAll();
    }

    // ---- what follows

    @Says("Section 2: FOLLOWS from a SET: all of it,")
    void allOfIt() {
        MindDuty duty = Checks.made("g9 0;i1;i1;i1;i1;i1;i1;i1;i1;");
        for (int set = 0; set < 256; set++) {
            due("follows(" + set + ") without JOININGS", duty.follows(set), set);
        }
        MindDuty joined = Checks.made("g9 0;i1;i1;i1;i1;i1;j0 1 2;j2 2 3;j3 4 0;j4 4 1;");
        for (int set = 0; set < 32; set++) {
            due("follows(" + set + ") has all of it", joined.follows(set) & set, set);
        }
        due("follows(0)", joined.follows(0), 0);
        due("without a PASS", none().follows(0), 0);
    }

    @Says("Section 2: and what JOININGS bring from what FOLLOWS, over and over.")
    void overAndOver() {
        MindDuty forth = Checks.made("g9 0;i1;i1;i1;i1;i1;i1;i1;i1;j0 0 1;j1 1 2;j2 2 3;j3 3 4;j4 4 5;j5 5 6;j6 6 7;");
        MindDuty back = Checks.made("g9 0;i1;i1;i1;i1;i1;i1;i1;i1;j6 6 7;j5 5 6;j4 4 5;j3 3 4;j2 2 3;j1 1 2;j0 0 1;");
        for (int k = 0; k < 8; k++) {
            int behind = 256 - (1 << k);
            due("from " + k + " on", forth.follows(1 << k), behind);
            due("from " + k + " on, told backwards", back.follows(1 << k), behind);
        }
        MindDuty circle = Checks.made("g9 0;i1;i1;i1;j0 0 1;j1 1 2;j2 2 0;");
        due("round a circle", circle.follows(2), 7);
        MindDuty both = Checks.made("g9 0;i1;i1;i1;i1;i1;j3 1 4;j2 2 3;j0 1 2;");
        due("what came joins with what was", both.follows(3), 31);
        due("not without the one", both.follows(1), 1);
        due("not without the other", both.follows(2), 2);
        due("nothing from nothing", both.follows(0), 0);
    }

    @Says("Section 2: IN THE COUNTRY is what FOLLOWS from what is REGISTERED.")
    void inTheCountry() {
        MindDuty duty = Checks.made("g9 0;i1;i1;i1;j0 1 2;r0;");
        due("of one", duty.told(8), 1);
        duty.register(1, true);
        due("of both", duty.told(8), 7);
        due("REGISTERED are but two", duty.told(7), 3);
        duty.register(0, false);
        due("of the other", duty.told(8), 2);
        duty.register(1, false);
        due("of none", duty.told(8), 0);
        MindDuty lost = Checks.made("g9 0;i1;t1;");
        due("not what TRAVELLERS have", lost.told(8), 0);
        lost.goRound(0, false);
        due("nor what was lost", lost.told(8), 0);
    }

    // ---- what is owed

    @Says("Section 2: OWED for a SET of IDEAS: of each that is not IN THE COUNTRY: its SIZE,")
    void owedOfEach() {
        MindDuty duty = Checks.made("g9 0;i7;i5;i3;i99;j0 0 2;r0;");
        due("nothing", duty.owed(0), 0);
        due("REGISTERED", duty.owed(1), 0);
        due("not REGISTERED, but there", duty.owed(4), 0);
        due("not there", duty.owed(2), 5);
        due("all", duty.owed(15), 104);
        duty.register(0, false);
        due("STRUCK", duty.owed(1), 7);
        due("what came of it", duty.owed(4), 3);
        due("all eight of 99", Checks.made("g1 0;i99;i99;i99;i99;i99;i99;i99;i99;").owed(255), 792);
    }

    @Says("Section 2: or SIZE / 2, if it FOLLOWS from the others of the SET together.")
    void secondThoughts() {
        MindDuty duty = Checks.made("g9 0;i7;i5;i9;i1;i8;j0 1 2;j2 2 3;j4 4 0;");
        due("of both others", duty.owed(7), 7 + 5 + 4);
        due("of one of them", duty.owed(5), 7 + 9);
        due("of the other one", duty.owed(6), 5 + 9);
        due("alone", duty.owed(4), 9);
        due("over one that the SET has not", duty.owed(11), 7 + 5);
        due("half of 1 is 0", duty.owed(12), 9);
        due("half of 7 is 3", duty.owed(17), 3 + 8);
        due("each from those that are left", duty.owed(31), 3 + 5 + 4 + 0 + 8);
        MindDuty circle = Checks.made("g9 0;i9;i6;j0 0 1;j1 1 0;");
        due("each from the other", circle.owed(3), 4 + 3);
        due("one of them", circle.owed(1), 9);
        MindDuty there = Checks.made("g9 0;i9;i7;i5;j0 1 2;r0;");
        due("not from what is REGISTERED and not of the SET", there.owed(6), 7 + 5);
        due("from what is free, if it is of the SET", there.owed(7), 7 + 2);
    }

    // ---- what travellers do

    @Says("Section 2: A TRAVELLER PASSES, if his IDEAS together are W or less:")
    void gateOrLess() {
        String text = "g50 0;i49;i1;i2;t1;t3;t5;t0;";
        due("49", Checks.made(text).pass(0), 49);
        due("50", Checks.made(text).pass(1), 50);
        refused("51", () -> Checks.made(text), x -> x.pass(2), NOT);
        due("nothing", Checks.made(text).pass(3), 0);
        refused("what is free counts, too", () -> Checks.made("g5 0;i6;r0;t1;"), x -> x.pass(0), NOT);
        refused("second thoughts count whole", () -> Checks.made("g14 0;i9;i6;j0 0 1;t3;"), x -> x.pass(0), NOT);
        due("second thoughts count whole", Checks.made("g15 0;i9;i6;j0 0 1;t3;").pass(0), 12);
    }

    @Says("Section 2: he pays what is OWED, all his IDEAS are REGISTERED.")
    void paysAndRegisters() {
        MindDuty duty = Checks.made("g99 0;i9;i6;i4;i3;j0 0 1;j2 2 3;r2;t15;t9;t2;");
        due("pass(0)", duty.pass(0), 12);
        due("PAID", duty.told(11), 12);
        due("all his, what was there already, too", duty.told(7), 15);
        due("the next owes nothing", duty.pass(1), 0);
        due("PAID stays", duty.told(11), 12);
        MindDuty some = Checks.made("g99 0;i9;i6;i4;j0 0 1;t5;t2;");
        due("pass(0)", some.pass(0), 13);
        due("his alone, not what FOLLOWS", some.told(7), 5);
        due("pass(1) is free", some.pass(1), 0);
        due("but REGISTERED", some.told(7), 7);
        MindDuty sum = Checks.made("g99 0;i9;i6;t1;t2;t0;");
        sum.pass(0);
        sum.pass(1);
        due("PAID is counted together", sum.told(11), 15);
        sum.pass(2);
        due("nothing for nothing", sum.told(11), 15);
    }

    @Says("Section 2: GOES ROUND: pays nothing; all his IDEAS are REGISTERED, if he comes through.")
    void goesRound() {
        String text = "g5 0;i9;i6;i4;j0 0 1;r2;t5;t2;t0;";
        MindDuty duty = Checks.made(text);
        due("STUCK, through, with news", duty.goRound(0, true), 1);
        due("PAID", duty.told(11), 0);
        due("all his", duty.told(7), 5);
        due("with what FOLLOWS", duty.goRound(1, true), 0);
        due("his, too", duty.told(7), 7);
        due("with nothing", duty.goRound(2, true), 0);
        due("PAID by none", duty.told(11), 0);
        MindDuty lost = Checks.made(text);
        lost.goRound(0, false);
        lost.goRound(1, false);
        due("lost: REGISTERED as ahead", lost.told(7), 4);
        due("lost: PAID", lost.told(11), 0);
        due("lost: GONE", lost.told(9), 3);
        due("one who is not STUCK may, too", Checks.made("g9 0;i9;t1;").goRound(0, true), 1);
    }

    @Says("Section 2: TALKED down: one of his IDEAS becomes another one by a TALK")
    void talkedDown() {
        String text = "g9 0;i9;i6;i4;d0 1 5;d1 2 7;t5;t1;";
        MindDuty duty = Checks.made(text);
        due("talk(1, 0, 1)", duty.talk(1, 0, 1), 5);
        due("his IDEAS", duty.traveller(1, 0), 2);
        due("their SIZE", duty.traveller(1, 1), 6);
        due("talk(0, 0, 1)", duty.talk(0, 0, 1), 5);
        due("the others stay", duty.traveller(0, 0), 6);
        due("MINUTES", duty.told(12), 10);
        due("REGISTERED stays", duty.told(7), 0);
        refused("not over others", () -> Checks.made(text), x -> x.talk(1, 0, 2), NOT);
        refused("not backwards", () -> Checks.made(text), x -> x.talk(0, 2, 1), NOT);
        refused("not to itself", () -> Checks.made(text), x -> x.talk(1, 0, 0), NOT);
        refused("not what he has not", () -> Checks.made(text), x -> x.talk(1, 1, 2), NOT);
    }

    @Says("Section 2: (the quickest of those two, if there are more;")
    void quickestTalk() {
        for (String talks : new String[] {"d0 1 3;d0 1 5;d0 1 4;", "d0 1 5;d0 1 3;d0 1 4;", "d0 1 5;d0 1 4;d0 1 3;", "d0 1 3;d0 1 3;d0 2 1;d1 2 1;"}) {
            MindDuty duty = Checks.made("g9 0;i9;i6;i4;" + talks + "t1;");
            due("talk by " + talks, duty.talk(0, 0, 1), 3);
            due("MINUTES by " + talks, duty.told(12), 3);
        }
    }

    @Says("Section 2: what he has twice by that he has once).")
    void twiceIsOnce() {
        MindDuty duty = Checks.made("g9 0;i9;i6;i4;d0 1 5;t7;");
        duty.talk(0, 0, 1);
        due("his IDEAS", duty.traveller(0, 0), 6);
        due("their SIZE", duty.traveller(0, 1), 10);
        due("what he owes", duty.traveller(0, 2), 10);
        due("the one is his no more", duty.talk(0, 0, 1), NOT);
    }

    @Says("Section 2: WHO has PASSED, gone round, or was lost, is GONE;")
    void whoIsGone() {
        String text = "g9 0;i5;i9;d1 0 5;t1;t2;t1;t1;";
        MindDuty duty = Checks.made(text);
        due("none at first", duty.told(9), 0);
        duty.pass(1);
        due("PASSED", duty.told(9), 2);
        duty.goRound(3, true);
        due("gone round", duty.told(9), 10);
        duty.goRound(0, false);
        due("lost", duty.told(9), 11);
        due("the last is not", duty.traveller(2, 3), 0);
        due("one who is", duty.traveller(0, 3), 1);
        MindDuty stuck = Checks.made("g1 0;i5;t1;");
        due("pass(0): STUCK", stuck.pass(0), NOT);
        due("who could not PASS is not", stuck.told(9), 0);
        MindDuty talked = Checks.made(text);
        talked.talk(1, 1, 0);
        talked.register(0, true);
        due("nobody by talk or the register", talked.told(9), 0);
    }

    @Says("Section 2: he COMES again with other IDEAS.")
    void comesAgain() {
        MindDuty duty = Checks.made("g9 0;i5;i9;j1 1 0;t1;t2;t3;");
        duty.pass(0);
        duty.goRound(1, false);
        due("come(0, 3)", duty.come(0, 3), 9);
        due("his IDEAS", duty.traveller(0, 0), 3);
        due("he is not GONE", duty.told(9), 2);
        due("he is STUCK", duty.told(10), 5);
        due("come(1, 0)", duty.come(1, 0), 0);
        due("nothing", duty.traveller(1, 0), 0);
        due("nobody is GONE", duty.told(9), 0);
        due("PAID by coming", duty.told(11), 5);
        due("REGISTERED by coming", duty.told(7), 1);
        due("he PASSES again", duty.pass(1), 0);
        due("and is GONE again", duty.told(9), 2);
    }

    @Says("Section 2: STRUCK: an IDEA is REGISTERED no more.")
    void struck() {
        MindDuty duty = Checks.made("g9 0;i5;i9;i3;j0 0 1;r0;r1;");
        due("it was", duty.register(1, false), 1);
        due("REGISTERED", duty.told(7), 1);
        due("it FOLLOWS still", duty.told(8), 3);
        due("it was not", duty.register(1, false), 0);
        due("REGISTERED", duty.told(7), 1);
        due("the other was", duty.register(0, false), 1);
        due("REGISTERED", duty.told(7), 0);
        due("IN THE COUNTRY", duty.told(8), 0);
        due("never REGISTERED", duty.register(2, false), 0);
    }

    /** The document promises 512 calls, in which so much can't be PAID; the class counts on, and no further than this. */
    @Says("Section 2: PAID, MINUTES of talk are counted (999999 at most).")
    void countedAtMost() {
        MindDuty duty = Checks.made("g99 0;i99;i99;d0 1 99;d1 0 99;t1;t1;");
        for (int k = 0; k < COUNTED / 99; k++) {
            due("PAID", duty.told(11), 99 * k);
            due("MINUTES", duty.told(12), 99 * k);
            duty.talk(1, k % 2, 1 - k % 2);
            duty.pass(0);
            duty.come(0, 1);
            duty.register(0, false);
        }
        due("PAID to the last", duty.told(11), COUNTED);
        due("MINUTES to the last", duty.told(12), COUNTED);
        due("he pays as ever", duty.pass(0), 99);
        due("they talk as ever", duty.talk(1, 1, 0), 99);
        due("PAID no more", duty.told(11), COUNTED);
        due("MINUTES no more", duty.told(12), COUNTED);
        duty.register(0, false);
        due("PAID by days", duty.drift(60), COUNTED);
        due("what is undone", duty.undo() >= 0 ? duty.told(11) : -1, COUNTED);
    }
}
