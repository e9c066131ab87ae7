import java.util.List;
import java.util.function.Consumer;
import java.util.function.Supplier;

/** Section 3: what is tried, asked, drawn, undone and kept. */
public final class EdgeTriedTest extends Sentences {
    private static final int NONE = Checks.NONE;
    private static final int OUTSIDE = Checks.OUTSIDE;
    private static final int NOT = Checks.NOT;
    private static final int FULL = Checks.FULL;
    private static final int BILLION = 1000000000;

    public static void main(String[] args) {
        new EdgeTriedTest().runAll();
    }

    private void leaves(String what, Supplier<MindDuty> making, Consumer<MindDuty> tries) {
        same(what + " leaves all as it was", making, () -> {
            MindDuty duty = making.get();
            tries.accept(duty);
            return duty;
        });
    }

    @Says("Section 3: TRIED from now; nothing changes by it.")
    void nothingChanges() {
        for (Supplier<MindDuty> making : List.<Supplier<MindDuty>>of(Sentences::none, Sentences::bare, Sentences::rich, Sentences::full)) {
            leaves("follows, owed", making, x -> consume(x.follows(3), x.owed(3)));
            leaves("parts", making, x -> consume(x.parts(0, 0), x.parts(1, 1)));
            leaves("talkDown", making, x -> consume(x.talkDown(0, 1, 0), x.talkDown(0, 1, 1)));
            leaves("soonest", making, x -> consume(x.soonest(0), x.soonest(1)));
            leaves("smallest", making, x -> consume(x.smallest(0), x.smallest(1)));
            leaves("better, gains", making, x -> consume(x.better(0, 99), x.gains(0, 3)));
            leaves("free, share, glacier", making, x -> consume(x.free(), x.share(0), x.glacier(60)));
            leaves("minds, askNext, judge", making, x -> consume(x.minds(0), x.minds(1), x.minds(2), x.askNext(), x.judge()));
            leaves("told, fault, size, traveller", making, x -> consume(x.told(8), x.told(10), x.fault(), x.size(0), x.traveller(0, 2)));
        }
    }

    private static void consume(int... answers) {
        if (answers.length == 0) {
            throw new IllegalStateException();
        }
    }

    // ---- parts

    @Says("Section 3: PARTS for an IDEA: the SET of IDEAS, without it,")
    void partsWithoutIt() {
        MindDuty duty = Checks.made("g9 0;i1;i9;j1 1 0;");
        due("the dearer one", duty.parts(0, 0), 2);
        due("not by itself", duty.parts(1, 0), NONE);
        MindDuty circle = Checks.made("g9 0;i1;i9;j1 1 0;j0 0 1;");
        due("by the other", circle.parts(0, 0), 2);
        due("and back", circle.parts(1, 0), 1);
        due("the last of eight", Checks.made("g1 0;i1;i1;i1;i1;i1;i1;i1;i1;j5 6 7;").parts(7, 0), 96);
        due("of the last of eight", Checks.made("g1 0;i1;i1;i1;i1;i1;i1;i1;i1;j6 7 0;").parts(0, 0), 192);
    }

    @Says("Section 3: of least SIZE together,")
    void partsOfLeastSize() {
        MindDuty more = Checks.made("g9 0;i9;i50;i25;i24;j1 1 0;j2 3 0;");
        due("two of 49", more.parts(0, 0), 12);
        due("how much", more.parts(0, 1), 49);
        MindDuty fewer = Checks.made("g9 0;i9;i50;i25;i26;j1 1 0;j2 3 0;");
        due("one of 50", fewer.parts(0, 0), 2);
        due("how much", fewer.parts(0, 1), 50);
        MindDuty chain = Checks.made("g9 0;i9;i50;i2;j1 1 0;j2 2 1;");
        due("over one that is dearer", chain.parts(0, 0), 4);
        due("how much", chain.parts(0, 1), 2);
    }

    @Says("Section 3: which, REGISTERED besides, make it FOLLOW;")
    void partsBesides() {
        MindDuty duty = Checks.made("g9 0;i9;i5;i4;j1 2 0;");
        due("both", duty.parts(0, 0), 6);
        duty.register(1, true);
        due("what is REGISTERED helps", duty.parts(0, 0), 4);
        due("how much", duty.parts(0, 1), 4);
        duty.register(2, true);
        due("it is there: nothing", duty.parts(0, 0), 0);
        due("how much", duty.parts(0, 1), 0);
        due("it is REGISTERED: nothing", duty.parts(1, 0), 0);
        duty.register(0, true);
        duty.register(1, false);
        due("REGISTERED itself", duty.parts(0, 0), 0);
        due("what TRAVELLERS have does not help", Checks.made("g9 0;i9;i5;j1 1 0;t2;").parts(0, 0), 2);
    }

    @Says("Section 3: of like ones the least SET:")
    void partsOfLikeOnes() {
        due("2 of 2, 12", Checks.made("g9 0;i9;i50;i25;i25;j2 3 0;j1 1 0;").parts(0, 0), 2);
        due("3 of 3, 8", Checks.made("g9 0;i5;i5;i3;i10;j3 3 2;j0 1 2;").parts(2, 0), 3);
        due("1 of 1, 2, 4", Checks.made("g9 0;i5;i5;i5;i9;j2 2 3;j1 1 3;j0 0 3;").parts(3, 0), 1);
        due("5 of 5, 6", Checks.made("g9 0;i5;i5;i5;i9;j2 1 3;j2 0 3;").parts(3, 0), 5);
    }

    @Says("Section 3: the SET; how much; NONE.")
    void partsOrNone() {
        MindDuty duty = Checks.made("g9 0;i9;i5;j1 1 0;");
        due("the SET", duty.parts(0, 0), 2);
        due("how much", duty.parts(0, 1), 5);
        due("NONE of SETS", duty.parts(1, 0), NONE);
        due("NONE of how much", duty.parts(1, 1), NONE);
        duty.register(1, true);
        due("nothing is not NONE", duty.parts(1, 0), 0);
        due("nor how much", duty.parts(1, 1), 0);
    }

    // ---- talk

    @Says("Section 3: TALK: the fewest minutes in which one IDEA can be talked down to another one (over others, too;")
    void fewestMinutes() {
        due("over another", Checks.made("g9 0;i9;i9;i9;d0 2 11;d0 1 5;d1 2 5;").talkDown(0, 2, 0), 10);
        due("straight", Checks.made("g9 0;i9;i9;i9;d0 2 9;d0 1 5;d1 2 5;").talkDown(0, 2, 0), 9);
        due("the quickest of two", Checks.made("g9 0;i9;i9;d0 1 5;d0 1 4;d0 1 6;").talkDown(0, 1, 0), 4);
        String eight = "g9 0;i9;i9;i9;i9;i9;i9;i9;i9;d6 7 14;d5 6 14;d4 5 14;d3 4 14;d2 3 14;d1 2 14;d0 1 14;d0 7 99;";
        due("seven talks", Checks.made(eight).talkDown(0, 7, 0), 98);
        due("seven talks, told forwards",
                Checks.made("g9 0;i9;i9;i9;i9;i9;i9;i9;i9;d0 7 99;d0 1 14;d1 2 14;d2 3 14;d3 4 14;d4 5 14;d5 6 14;d6 7 14;").talkDown(0, 7, 0), 98);
        due("one talk is as quick as six", Checks.made(eight).talkDown(1, 7, 0), 84);
        due("693 at most", Checks.made(eight.replace("14;", "99;").replace("d0 7 99;", "")).talkDown(0, 7, 0), 693);
        due("whether he has it or not", Checks.made("g9 0;i9;i9;d0 1 5;r0;").talkDown(0, 1, 0), 5);
    }

    @Says("Section 3: itself 0);")
    void itself() {
        MindDuty duty = Checks.made("g9 0;i9;i9;d0 1 5;d1 0 5;");
        due("in a circle", duty.talkDown(0, 0, 0), 0);
        due("next in a circle", duty.talkDown(0, 0, 1), NONE);
        due("without TALKS", Checks.made("g9 0;i9;").talkDown(0, 0, 0), 0);
        due("next without TALKS", Checks.made("g9 0;i9;").talkDown(0, 0, 1), NONE);
        due("the last of eight", eight().talkDown(7, 7, 0), 0);
    }

    @Says("Section 3: the IDEA next on the first such way (of like ones the least); NONE.")
    void nextOnTheWay() {
        MindDuty duty = Checks.made("g9 0;i9;i9;i9;i9;d0 3 9;d0 2 4;d2 3 5;d0 1 6;d1 3 3;");
        due("1 of 1, 2, 3", duty.talkDown(0, 3, 1), 1);
        due("straight on", duty.talkDown(1, 3, 1), 3);
        due("NONE of minutes", duty.talkDown(3, 0, 0), NONE);
        due("NONE of next", duty.talkDown(3, 0, 1), NONE);
        due("2 of 2, 3", Checks.made("g9 0;i9;i9;i9;i9;d0 3 9;d0 2 4;d2 3 5;d0 1 6;d1 3 4;").talkDown(0, 3, 1), 2);
        due("3 alone", Checks.made("g9 0;i9;i9;i9;i9;d0 3 8;d0 2 4;d2 3 5;d0 1 6;d1 3 4;").talkDown(0, 3, 1), 3);
        due("the least next, though further", Checks.made("g9 0;i9;i9;i9;i9;i9;d0 4 9;d4 3 1;d0 1 2;d1 2 4;d2 3 4;").talkDown(0, 3, 1), 1);
        due("not by the slower of two", Checks.made("g9 0;i9;i9;i9;i9;d0 1 5;d0 1 4;d1 3 4;d0 2 4;d2 3 3;").talkDown(0, 3, 1), 2);
        due("not one from which no way leads", Checks.made("g9 0;i9;i9;i9;d0 1 5;d0 2 4;").talkDown(0, 2, 1), 2);
        due("no TALK at all", Checks.made("g9 0;i9;i9;").talkDown(0, 1, 0), NONE);
        due("no next at all", Checks.made("g9 0;i9;i9;").talkDown(0, 1, 1), NONE);
        due("a way that ends elsewhere", Checks.made("g9 0;i9;i9;i9;d0 1 5;").talkDown(0, 2, 1), NONE);
    }

    // ---- soonest

    @Says("Section 3: SOONEST for a TRAVELLER: the fewest minutes of talk,")
    void soonestOfMinutes() {
        due("straight", Checks.made("g9 0;i40;i30;i9;d0 2 10;d0 1 5;d1 2 6;t1;").soonest(0), 10);
        due("over another", Checks.made("g9 0;i40;i30;i9;d0 2 12;d0 1 5;d1 2 6;t1;").soonest(0), 11);
        due("the quickest of two", Checks.made("g9 0;i40;i9;d0 1 5;d0 1 4;d0 1 6;t1;").soonest(0), 4);
        due("both are needed", Checks.made("g8 0;i5;i6;i4;d0 2 7;d1 2 6;t3;").soonest(0), 13);
        due("the second is enough", Checks.made("g9 0;i5;i6;i4;d0 2 7;d1 2 6;t3;").soonest(0), 6);
        due("either is enough", Checks.made("g10 0;i5;i6;i4;d0 2 7;d1 2 8;t3;").soonest(0), 7);
        due("by what he has alone", Checks.made("g9 0;i40;i30;i9;d1 2 1;d0 2 10;t1;").soonest(0), 10);
        due("two become one", Checks.made("g9 0;i9;i9;d0 1 7;d1 0 6;t3;").soonest(0), 6);
        due("297 at most", Checks.made("g9 0;i40;i30;i20;i9;d0 1 99;d1 2 99;d2 3 99;t1;").soonest(0), 297);
    }

    @Says("Section 3: by 3 TALKS at most, one behind the other,")
    void soonestByThree() {
        String text = "g9 0;i50;i40;i30;i20;i9;d0 1 1;d1 2 1;d2 3 1;d3 4 1;";
        due("three", Checks.made(text + "t2;").soonest(0), 3);
        due("two", Checks.made(text + "t4;").soonest(0), 2);
        due("one", Checks.made(text + "t8;").soonest(0), 1);
        due("four", Checks.made(text + "t1;").soonest(0), NONE);
        due("one dear one instead of four", Checks.made(text + "d0 4 99;t1;").soonest(0), 99);
        due("three dear ones instead of four", Checks.made(text + "d0 2 50;t1;").soonest(0), 52);
        due("three of three IDEAS", Checks.made("g3 0;i2;i2;i2;i1;d0 3 5;d1 3 5;d2 3 5;t7;").soonest(0), 10);
        due("three of three IDEAS to the last", Checks.made("g1 0;i2;i2;i2;i1;d0 3 5;d1 3 5;d2 3 5;t7;").soonest(0), 15);
        due("four of four IDEAS", Checks.made("g1 0;i2;i2;i2;i2;i1;d0 4 5;d1 4 5;d2 4 5;d3 4 5;t15;").soonest(0), NONE);
    }

    @Says("Section 3: till he is not STUCK; 0: he is not; NONE.")
    void soonestOrNone() {
        due("nothing in mind", Checks.made("g9 0;i10;t0;").soonest(0), 0);
        due("at the gate's own size", Checks.made("g9 0;i9;t1;").soonest(0), 0);
        due("one more", Checks.made("g9 0;i10;t1;").soonest(0), NONE);
        due("down to the gate's own size", Checks.made("g9 0;i10;i9;d0 1 5;t1;").soonest(0), 5);
        due("down to one more", Checks.made("g9 0;i11;i10;d0 1 5;t1;").soonest(0), NONE);
        due("0 though there are TALKS", Checks.made("g9 0;i9;i8;d0 1 5;t1;").soonest(0), 0);
        due("what is free makes STUCK, too", Checks.made("g9 0;i10;r0;t1;").soonest(0), NONE);
    }

    // ---- the smallest register

    @Says("Section 3: SMALLEST: of SETS of which just the same FOLLOWS as from what is REGISTERED the one of fewest IDEAS;")
    void smallestOfAll() {
        MindDuty chain = Checks.made("g9 0;i1;i1;i1;j0 0 1;j1 1 2;r0;r1;r2;");
        due("the first of a chain", chain.smallest(0), 1);
        chain.register(0, false);
        due("just the same, not more", chain.smallest(0), 2);
        chain.register(1, false);
        due("the last of it", chain.smallest(0), 4);
        chain.register(2, false);
        due("nothing of nothing", chain.smallest(0), 0);
        due("one that is not REGISTERED", Checks.made("g9 0;i9;i9;i9;j2 2 0;j2 2 1;j0 1 2;r0;r1;").smallest(0), 4);
        due("all eight", Checks.made("g9 0;i1;i1;i1;i1;i1;i1;i1;i1;r0;r1;r2;r3;r4;r5;r6;r7;").smallest(0), 255);
        due("without a PASS", none().smallest(0), 0);
        due("without IDEAS", bare().smallest(0), 0);
        due("fewest IDEAS, not least SIZE", Checks.made("g9 0;i1;i1;i99;j0 1 2;j2 2 0;j2 2 1;r0;r1;").smallest(0), 4);
    }

    @Says("Section 3: the one of fewest IDEAS; of like ones the least.")
    void smallestOfLikeOnes() {
        due("1 of 1, 2", Checks.made("g9 0;i1;i1;j0 0 1;j1 1 0;r1;").smallest(0), 1);
        due("2 of 2, 4", Checks.made("g9 0;i1;i1;i1;j1 1 2;j2 2 1;r2;").smallest(0), 2);
        due("3 of 3, 5, 6", Checks.made("g9 0;i1;i1;i1;j0 1 2;j0 2 1;j1 2 0;r1;r2;").smallest(0), 3);
    }

    @Says("Section 3: NEEDLESS: REGISTERED ones (a SET) without each of which alone the same would be IN THE COUNTRY.")
    void needless() {
        due("both of a circle", Checks.made("g9 0;i1;i1;i1;j0 0 1;j1 1 0;r0;r1;").smallest(1), 3);
        due("one of it alone is not", Checks.made("g9 0;i1;i1;i1;j0 0 1;j1 1 0;r1;").smallest(1), 0);
        due("all but the first of a chain",
                Checks.made("g1 0;i1;i1;i1;i1;i1;i1;i1;i1;j0 0 1;j1 1 2;j2 2 3;j3 3 4;j4 4 5;j5 5 6;j6 6 7;r0;r1;r2;r3;r4;r5;r6;r7;").smallest(1), 254);
        due("not what is not REGISTERED", Checks.made("g9 0;i1;i1;i1;j0 0 1;j1 1 2;r0;r2;").smallest(1), 4);
        due("none of nothing", Checks.made("g9 0;i1;").smallest(1), 0);
        due("without a PASS", none().smallest(1), 0);
        due("none of what is needed", Checks.made("g9 0;i1;i1;i1;j0 1 2;r0;r1;").smallest(1), 0);
    }

    // ---- better, gains

    @Says("Section 3: BETTER: what a TRAVELLER should do who would lose v (0 .. 9999) if the glacier took him:")
    void betterBounds() {
        String text = "g50 20;i30;i20;t3;t0;";
        refused("-1", () -> Checks.made(text), x -> x.better(0, -1), OUTSIDE);
        due("0", Checks.made(text).better(0, 0), 1);
        due("9999", Checks.made(text).better(0, 9999), 0);
        refused("10000", () -> Checks.made(text), x -> x.better(0, 10000), OUTSIDE);
        due("9999 by 99 of a hundred: 9899", Checks.made("g999 99;i99;i99;t3;").better(0, 9999), 0);
    }

    @Says("Section 3: 0 to PASS, 1 to go round: less of what is OWED, and Q times v / 100 (cut);")
    void betterOfTheTwo() {
        MindDuty duty = Checks.made("g50 20;i30;i20;t3;");
        due("50, or 49 of 249", duty.better(0, 249), 1);
        due("50, or 51 of 255", duty.better(0, 255), 0);
        MindDuty odd = Checks.made("g50 33;i9;i1;t1;t2;");
        due("9, or 8.91 of 27", odd.better(0, 27), 1);
        due("9, or 9.24 of 28", odd.better(0, 28), 0);
        due("1, or 0.99 of 3", odd.better(1, 3), 1);
        due("1, or 1.32 of 4", odd.better(1, 4), 0);
        due("no risk, something OWED", Checks.made("g50 0;i1;t1;").better(0, 9999), 1);
        due("what is OWED, not SIZE", Checks.made("g50 1;i9;i9;j0 0 1;t3;").better(0, 1300), 0);
        due("what is OWED, not SIZE, and less", Checks.made("g50 1;i9;i9;j0 0 1;t3;").better(0, 1299), 1);
    }

    @Says("Section 3: of like ones to PASS;")
    void betterOfLikeOnes() {
        due("50, or 50 of 250", Checks.made("g50 20;i30;i20;t3;").better(0, 250), 0);
        due("50, or 50.8 of 254", Checks.made("g50 20;i30;i20;t3;").better(0, 254), 0);
        due("0, or 0", Checks.made("g50 20;i30;t0;").better(0, 0), 0);
        due("0, or 0 without risk", Checks.made("g50 0;i30;r0;t1;").better(0, 9999), 0);
    }

    @Says("Section 3: STUCK: to go round.")
    void betterIfStuck() {
        due("at the gate's own size", Checks.made("g9 99;i9;t1;").better(0, 9999), 0);
        due("one more", Checks.made("g9 99;i10;t1;").better(0, 9999), 1);
        due("one more, though nothing is OWED", Checks.made("g9 99;i10;r0;t1;").better(0, 9999), 1);
    }

    @Says("Section 3: GAINS of another post where a SET is REGISTERED instead: how much less he owes there than here")
    void gainsThere() {
        MindDuty duty = Checks.made("g99 0;i9;i6;i4;j0 0 1;r2;t7;");
        due("all is REGISTERED there", duty.gains(0, 7), 1012);
        due("one there, and what FOLLOWS", duty.gains(0, 5), 1012);
        due("instead, not besides", duty.gains(0, 1), 1008);
        due("what FOLLOWS there alone", duty.gains(0, 2), 999);
        due("792 less", Checks.made("g99 0;i99;i99;i99;i99;i99;i99;i99;i99;t255;").gains(0, 255), 1792);
    }

    @Says("Section 3: (below 0: more;")
    void gainsMore() {
        MindDuty duty = Checks.made("g99 0;i9;i6;i4;j0 0 1;r2;t7;");
        due("4 more", duty.gains(0, 0), 996);
        due("792 more", Checks.made("g99 0;i99;i99;i99;i99;i99;i99;i99;i99;r0;r1;r2;r3;r4;r5;r6;r7;t255;").gains(0, 0), 208);
    }

    @Says("Section 3: STUCK or not),")
    void gainsIfStuck() {
        due("STUCK", Checks.made("g9 0;i10;t1;").gains(0, 1), 1010);
        due("not STUCK", Checks.made("g10 0;i10;t1;").gains(0, 1), 1010);
    }

    @Says("Section 3: and 1000.")
    void gainsNothing() {
        due("the same", Checks.made("g9 0;i9;i5;r1;t3;").gains(0, 2), 1000);
        due("nothing in mind", Checks.made("g9 0;i9;i5;r1;t0;").gains(0, 1), 1000);
        due("nothing here or there", Checks.made("g9 0;i9;t1;").gains(0, 0), 1000);
    }

    // ---- what was asked

    @Says("Section 3: ASKED (6 at most), of an unknown mind (a SET of IDEAS):")
    void sixQuestions() {
        MindDuty duty = Checks.made("g9 0;i1;i1;i1;i1;i1;i1;i1;i1;");
        due("any SET fits at first", duty.minds(0), 256);
        for (int k = 0; k < 6; k++) {
            due("question " + k, duty.ask(1 << k, 0, k % 2 == 0), k + 1);
            due("what fits", duty.minds(0), 128 >> k);
        }
        due("a seventh", duty.ask(64, 0, true), FULL);
        due("it is not ASKED", duty.minds(0), 4);
        due("all six are", duty.minds(1), 21);
        due("of no IDEAS there is one mind", none().minds(0), 1);
    }

    private static MindDuty asked(int set, int how, boolean yes) {
        MindDuty duty = Checks.made("g9 0;i1;i1;i1;");
        duty.ask(set, how, yes);
        return duty;
    }

    @Says("Section 3: whether any of a told SET is in it (how 0),")
    void anyOfIt() {
        due("any of 3", asked(3, 0, true).minds(0), 6);
        due("the least", asked(3, 0, true).minds(1), 1);
        due("none of 3", asked(3, 0, false).minds(0), 2);
        due("any of nothing", asked(0, 0, true).minds(0), 0);
        due("none of nothing", asked(0, 0, false).minds(0), 8);
        due("any of all", asked(7, 0, true).minds(0), 7);
        due("none of all", asked(7, 0, false).minds(0), 1);
    }

    @Says("Section 3: all of it (how 1),")
    void allOfIt() {
        due("all of 3", asked(3, 1, true).minds(0), 2);
        due("the least", asked(3, 1, true).minds(1), 3);
        due("not all of 3", asked(3, 1, false).minds(0), 6);
        due("all of nothing", asked(0, 1, true).minds(0), 8);
        due("not all of nothing", asked(0, 1, false).minds(0), 0);
        due("all of all", asked(7, 1, true).minds(0), 1);
    }

    @Says("Section 3: just how less 2 of it (how 2 .. 10): yes, or no.")
    void justSoManyOfIt() {
        int[] ways = {1, 8, 28, 56, 70, 56, 28, 8, 1};
        for (int how = 2; how <= 10; how++) {
            MindDuty yes = Checks.made("g9 0;i1;i1;i1;i1;i1;i1;i1;i1;");
            due("just " + (how - 2), yes.ask(255, how, true), 1);
            due("yes", yes.minds(0), ways[how - 2]);
            MindDuty no = Checks.made("g9 0;i1;i1;i1;i1;i1;i1;i1;i1;");
            no.ask(255, how, false);
            due("no", no.minds(0), 256 - ways[how - 2]);
        }
        refused("how 11", Sentences::rich, x -> x.ask(31, 11, true), OUTSIDE);
        refused("how -1", Sentences::rich, x -> x.ask(31, -1, true), OUTSIDE);
        due("just 1 of 3", asked(3, 3, true).minds(0), 4);
        due("just 2 of 3", asked(3, 4, true).minds(0), 2);
        due("just 3 of two", asked(3, 5, true).minds(0), 0);
        due("not just 8 of two", asked(3, 10, false).minds(0), 8);
        due("just 0 of nothing", asked(0, 2, true).minds(0), 8);
    }

    @Says("Section 3: MINDS: SETS by which all that is ASKED is so: how many;")
    void mindsByAll() {
        MindDuty duty = Checks.made("g9 0;i1;i1;i1;i1;");
        due("nothing ASKED", duty.minds(0), 16);
        duty.ask(3, 0, true);
        due("one", duty.minds(0), 12);
        duty.ask(12, 1, false);
        due("two", duty.minds(0), 9);
        duty.ask(15, 4, true);
        due("three", duty.minds(0), 5);
        duty.ask(15, 3, true);
        due("what can't be", duty.minds(0), 0);
        due("without a PASS", none().minds(0), 1);
    }

    @Says("Section 3: the least; SURE: IDEAS in all of them (0 without any).")
    void leastAndSure() {
        MindDuty duty = Checks.made("g9 0;i1;i1;i1;i1;");
        due("the least of all", duty.minds(1), 0);
        due("SURE of none", duty.minds(2), 0);
        duty.ask(4, 0, true);
        due("the least", duty.minds(1), 4);
        due("SURE", duty.minds(2), 4);
        duty.ask(11, 3, true);
        due("the least", duty.minds(1), 5);
        due("SURE", duty.minds(2), 4);
        duty.ask(3, 0, false);
        due("the least, and the only one", duty.minds(1), 12);
        due("SURE of all that it has", duty.minds(2), 12);
        duty.ask(12, 1, false);
        due("without any: the least", duty.minds(1), NONE);
        due("without any: SURE", duty.minds(2), 0);
        MindDuty all = Checks.made("g9 0;i1;i1;i1;i1;i1;i1;i1;i1;");
        all.ask(255, 1, true);
        due("the least of eight", all.minds(1), 255);
        due("SURE of eight", all.minds(2), 255);
    }

    @Says("Section 3: ASK NEXT: the IDEA by which (is it in the mind?) these are told apart best: the greatest part that is alike is least;")
    void askNextBest() {
        MindDuty seldom = asked(3, 1, false);
        due("2 and 4, 2 and 4, 3 and 3", seldom.askNext(), 2);
        MindDuty often = asked(3, 0, true);
        due("4 and 2, 4 and 2, 3 and 3", often.askNext(), 2);
        MindDuty known = asked(1, 0, true);
        due("0 parts none", known.askNext(), 1);
        MindDuty not = asked(1, 0, false);
        due("0 parts none, either", not.askNext(), 1);
    }

    @Says("Section 3: is least; of like ones the least; NONE: none parts them.")
    void askNextOfLikeOnes() {
        due("all parts are like", Checks.made("g9 0;i1;i1;i1;").askNext(), 0);
        due("1 of 3 each", asked(7, 3, true).askNext(), 0);
        due("1 and 2 are like", asked(1, 0, true).askNext(), 1);
        due("one mind alone", asked(7, 1, true).askNext(), NONE);
        due("no mind", asked(0, 0, true).askNext(), NONE);
        due("without IDEAS", bare().askNext(), NONE);
        due("without a PASS", none().askNext(), NONE);
        MindDuty again = Checks.made("g9 0;i1;i1;i1;");
        for (int k = 0; k < 3; k++) {
            due("as often as it is asked", again.askNext(), 0);
            due("and what fits", again.minds(0), 8);
        }
        MindDuty last = Checks.made("g9 0;i1;i1;i1;i1;i1;i1;i1;i1;");
        last.ask(127, 1, true);
        due("the last of eight alone parts them", last.askNext(), 7);
    }

    // ---- free, share, glacier

    @Says("Section 3: FREE: IDEAS (a SET) that are IN THE COUNTRY and not REGISTERED.")
    void freeOnes() {
        MindDuty duty = Checks.made("g9 0;i1;i1;i1;i1;j0 0 1;j1 1 2;t8;");
        due("nothing of nothing", duty.free(), 0);
        duty.register(0, true);
        due("what FOLLOWS", duty.free(), 6);
        duty.register(2, true);
        due("less what is REGISTERED", duty.free(), 2);
        duty.register(1, true);
        due("all is REGISTERED", duty.free(), 0);
        duty.pass(0);
        due("what came in is REGISTERED", duty.free(), 0);
        due("without a PASS", none().free(), 0);
    }

    @Says("Section 3: SHARE of a TRAVELLER: thousandths (cut)")
    void shareIsCut() {
        MindDuty thirds = Checks.made("g9 0;i1;i2;i4;t1;t2;t4;");
        due("1 of 7", thirds.share(0), 142);
        due("2 of 7", thirds.share(1), 285);
        due("4 of 7", thirds.share(2), 571);
        due("all", Checks.made("g9 0;i7;t1;").share(0), 1000);
        MindDuty little = Checks.made("g1 0;i1;i99;i99;i99;i99;i99;i99;i99;t1;t254;t254;t254;");
        due("1 of 2080", little.share(0), 0);
        due("693 of 2080", little.share(3), 333);
    }

    @Says("Section 3: of what all who are not GONE owe together: his;")
    void shareOfThoseThere() {
        MindDuty duty = Checks.made("g5 0;i5;i9;i6;t1;t2;t4;");
        due("5 of 20, two STUCK", duty.share(0), 250);
        due("one who is STUCK, too", duty.share(1), 450);
        duty.goRound(1, false);
        due("5 of 11", duty.share(0), 454);
        refused("GONE", () -> {
            MindDuty gone = Checks.made("g5 0;i5;i9;i6;t1;t2;t4;");
            gone.goRound(1, false);
            return gone;
        }, x -> x.share(1), NOT);
        duty.come(1, 4);
        due("5 of 17: he is there again", duty.share(0), 294);
        duty.register(2, true);
        due("5 of 5: they owe nothing", duty.share(0), 1000);
        due("0 of 5", duty.share(2), 0);
    }

    @Says("Section 3: 0, if that is 0.")
    void shareOfNothing() {
        due("nothing in mind", Checks.made("g5 0;i5;t0;").share(0), 0);
        due("all is there", Checks.made("g5 0;i5;r0;t1;t1;").share(1), 0);
        MindDuty last = Checks.made("g5 0;i5;t0;t1;");
        last.goRound(1, false);
        due("who owes is GONE", last.share(0), 0);
        due("half of 1 is 0", Checks.made("g9 0;i1;i1;j0 0 1;j1 1 0;t3;").share(0), 0);
    }

    @Says("Section 3: GLACIER: odds that all of n (0 .. 60) come through:")
    void glacierBounds() {
        due("of none", Checks.made("g9 99;").glacier(0), BILLION);
        due("of 60", Checks.made("g9 20;").glacier(60), 1531);
        refused("of -1", Sentences::rich, x -> x.glacier(-1), OUTSIDE);
        refused("of 61", Sentences::rich, x -> x.glacier(61), OUTSIDE);
        due("of 60 without risk", Checks.made("g9 0;").glacier(60), BILLION);
        due("of 60 without a PASS", none().glacier(60), BILLION);
    }

    @Says("Section 3: a BILLION times (100 less Q) / 100 each (cut).")
    void glacierIsCutEachTime() {
        // cut once, at the end, it would be 547156642
        due("60 times 99 / 100", Checks.made("g9 1;").glacier(60), 547156620);
        int[] fifths = {BILLION, 800000000, 640000000, 512000000, 409600000, 327680000};
        for (int n = 0; n < fifths.length; n++) {
            due(n + " times 80 / 100", Checks.made("g9 20;").glacier(n), fifths[n]);
        }
        int[] hundredths = {BILLION, 10000000, 100000, 1000, 10, 0, 0};
        for (int n = 0; n < hundredths.length; n++) {
            due(n + " times 1 / 100", Checks.made("g9 99;").glacier(n), hundredths[n]);
        }
    }

    // ---- the book

    @Says("Section 3: THE BOOK (15 at most)")
    void fifteenEntries() {
        MindDuty duty = Checks.made("g9 0;i1;i1;r0;");
        for (int k = 1; k <= 14; k++) {
            due("entry " + k, duty.write(0, 1), k);
        }
        due("none is WRONG", duty.judge(), NONE);
        due("entry 15", duty.write(1, 1), 15);
        due("the last is WRONG", duty.judge(), 14);
        due("entry 16", duty.write(0, 0), FULL);
        due("the last is WRONG still", duty.judge(), 14);
        due("entries", duty.told(14), 15);
    }

    @Says("Section 3: tells whether IDEAS are IN THE COUNTRY (0, 1):")
    void entriesOfTheCountry() {
        for (int is = 0; is <= 1; is++) {
            MindDuty duty = Checks.made("g9 0;i1;i1;i1;j0 0 1;r0;");
            due("REGISTERED", duty.write(0, is) == 1 ? duty.judge() : -9, is == 1 ? NONE : 0);
            duty.tear();
            duty.write(1, is);
            due("not REGISTERED, but there", duty.judge(), is == 1 ? NONE : 0);
            duty.tear();
            duty.write(2, is);
            due("not there", duty.judge(), is == 0 ? NONE : 0);
        }
        refused("-1", Sentences::rich, x -> x.write(0, -1), OUTSIDE);
        refused("2", Sentences::rich, x -> x.write(0, 2), OUTSIDE);
        MindDuty eight = eight();
        eight.write(7, 0);
        due("the last of eight", eight.judge(), NONE);
        eight.register(7, true);
        due("the last of eight, REGISTERED", eight.judge(), 0);
    }

    @Says("Section 3: WRONG: the first that is otherwise now; NONE.")
    void firstThatIsWrong() {
        MindDuty duty = Checks.made("g9 0;i1;i1;i1;");
        due("an empty BOOK", duty.judge(), NONE);
        due("without a PASS", none().judge(), NONE);
        duty.write(0, 0);
        duty.write(1, 1);
        duty.write(2, 1);
        duty.write(0, 1);
        due("the first of three", duty.judge(), 1);
        duty.register(1, true);
        due("now another", duty.judge(), 2);
        duty.register(2, true);
        due("now the last", duty.judge(), 3);
        duty.register(0, true);
        due("now the first", duty.judge(), 0);
    }

    // ---- by draws: from 0 on THE SEED is 12345, 1406932606, 654583775, 1449466924, 229283573, 1109335178, 1051550459, 1293799192

    @Says("Section 3: BY DRAWS: THE SEED (0 at first:")
    void seedAtFirst() {
        due("new", none().seed(5), 0);
        due("with a PASS", some().seed(5), 0);
    }

    @Says("Section 3: each DRAW it becomes it times 1103515245 and 12345, left over by 2 to the 31;")
    void seedByDraws() {
        MindDuty duty = Checks.made("g9 0;i5;t0;");
        duty.drift(1);
        due("two DRAWS from 0", duty.seed(0), 1406932606);
        duty.drift(2);
        due("four DRAWS from 0", duty.seed(2147483647), 1449466924);
        duty.drift(1);
        due("two DRAWS from the greatest", duty.seed(0), 288979989);
    }

    @Says("Section 3: the DRAW of n is it / 65536, left over by n):")
    void drawsOfSome() {
        int[] minds = {0, 0, 0, 4, 12, 28, 28, 92, 220};
        for (int ideas = 1; ideas <= 8; ideas++) {
            MindDuty duty = Checks.made("g999 0;" + "i1;".repeat(ideas) + "t0;");
            duty.drift(1);
            due("21468 left over by 2 to the " + ideas, duty.traveller(0, 0), minds[ideas]);
        }
        int[] second = {0, 0, 0, 1, 0, 3};
        for (int travellers = 1; travellers <= 5; travellers++) {
            MindDuty duty = Checks.made("g999 0;i1;" + "t0;".repeat(travellers));
            duty.drift(2);
            due("0, and 9988 left over by " + travellers, duty.told(9), 1 | 1 << second[travellers]);
        }
        MindDuty most = Checks.made("g999 0;i1;t0;t0;t0;t0;t0;");
        most.seed(2147483647);
        most.drift(1);
        due("1043980748 / 65536 is 15929, left over by 5", most.told(9), 16);
    }

    @Says("Section 3: n days, if there are TRAVELLERS and IDEAS:")
    void daysOfSomebody() {
        for (String text : new String[] {"g9 0;", "g9 0;t0;t0;", "g9 0;i5;i6;r1;"}) {
            MindDuty duty = Checks.made(text);
            int registered = duty.told(7);
            due("drift(60)", duty.drift(60), 0);
            due("REGISTERED", duty.told(7), registered);
            due("GONE", duty.told(9), 0);
            due("it was not refused", duty.told(15), 1);
            due("no DRAW", duty.seed(0), 0);
        }
        MindDuty duty = Checks.made("g9 0;i5;t0;");
        duty.drift(1);
        holds("a DRAW", duty.seed(0) != 0);
        MindDuty parts = some();
        parts.drift(59);
        parts.drift(1);
        MindDuty whole = some();
        whole.drift(60);
        due("60 days are 59 and one", parts.seed(0), whole.seed(0));
    }

    @Says("Section 3: in each a DRAW of TRAVELLERS, of 2 to the number of IDEAS: he COMES with these;")
    void comesByDraws() {
        MindDuty duty = Checks.made("g6 88;i1;i1;i6;t3;t3;t3;");
        duty.drift(1);
        due("0 COMES with 4, though he was not GONE", duty.traveller(0, 0), 4);
        due("1 stays", duty.traveller(1, 0), 3);
        due("he is GONE then", duty.told(9), 1);
        duty.drift(1);
        due("1 COMES with 5", duty.traveller(1, 0), 5);
        due("two are GONE", duty.told(9), 3);
        duty.goRound(2, false);
        duty.drift(1);
        due("1 COMES with 5 again, though he was GONE", duty.traveller(1, 0), 5);
        due("three are GONE", duty.told(9), 7);
        due("THE SEED", duty.seed(0), 1293799192);
    }

    @Says("Section 3: not STUCK: he PASSES;")
    void passesByDraws() {
        MindDuty duty = Checks.made("g6 99;i1;i1;i6;t0;t0;t0;");
        due("he pays at the gate's own size", duty.drift(1), 6);
        due("PAID", duty.told(11), 6);
        due("REGISTERED", duty.told(7), 4);
        due("no third DRAW", duty.seed(0), 1406932606);
        due("again it is free", duty.drift(1), 6);
        due("PAID by hand and by draws", paidByBoth(), 7);
        due("second thoughts are half", Checks.made("g99 0;i3;i4;i6;i5;j2 2 3;t0;").drift(1), 8);
    }

    private static int paidByBoth() {
        MindDuty duty = Checks.made("g6 99;i1;i1;i6;t0;t1;t0;");
        duty.pass(1);
        return duty.drift(1);
    }

    @Says("Section 3: else he goes round, a DRAW of 100: below Q he is lost.")
    void lostByDraws() {
        for (int risk = 86; risk <= 91; risk++) {
            // the third DRAW is 9988, so 88 of 100
            MindDuty duty = Checks.made("g5 " + risk + ";i1;i1;i6;t0;t0;t0;");
            due("he pays nothing", duty.drift(1), 0);
            due("REGISTERED at " + risk, duty.told(7), risk <= 88 ? 4 : 0);
            due("GONE", duty.told(9), 1);
            due("his IDEAS", duty.traveller(0, 0), 4);
            due("three DRAWS", duty.seed(0), 654583775);
        }
        // from these the third DRAW is 8200, 24950, 11999: the least of 100, one amid, the greatest
        lostBelow(507, 0);
        lostBelow(119, 50);
        lostBelow(16, 99);
        MindDuty safe = Checks.made("g5 0;i6;t0;");
        safe.drift(60);
        due("nobody is lost without risk", safe.told(7), 1);
    }

    private void lostBelow(int seed, int third) {
        for (int risk = Math.max(0, third - 1); risk <= Math.min(99, third + 1); risk++) {
            MindDuty duty = Checks.made("g5 " + risk + ";i6;t0;");
            duty.seed(seed);
            duty.drift(1);
            due("STUCK with", duty.traveller(0, 0), 1);
            due(third + " of 100 at " + risk, duty.told(7), third < risk ? 0 : 1);
        }
    }

    // ---- undone

    private void undone(String what, Supplier<MindDuty> making, Consumer<MindDuty> does) {
        same(what + " is undone", making, () -> {
            MindDuty duty = making.get();
            int seed = duty.seed(0);
            duty.seed(seed);
            does.accept(duty);
            duty.undo();
            duty.seed(seed);
            return duty;
        });
    }

    @Says("Section 3: UNDONE: the latest of pass(), goRound(), talk(), come(), register(), drift() that was not refused")
    void latestIsUndone() {
        MindDuty duty = some();
        duty.pass(0);
        due("pass", duty.told(15), 1);
        duty.goRound(1, false);
        due("goRound", duty.told(15), 2);
        duty.talk(2, 2, 4);
        due("talk", duty.told(15), 3);
        duty.come(1, 8);
        due("come", duty.told(15), 4);
        duty.register(1, true);
        due("register, though it was", duty.told(15), 5);
        duty.register(3, false);
        due("register, though it was not", duty.told(15), 6);
        duty.drift(1);
        due("drift", duty.told(15), 7);
        duty.ask(1, 0, true);
        duty.write(0, 0);
        duty.tear();
        duty.seed(9);
        Checks.read(duty, "x");
        duty.feed('g');
        due("no other call", duty.told(15), 7);
        duty.come(1, 99);
        duty.register(9, true);
        duty.drift(61);
        duty.talk(0, 4, 0);
        due("none that was refused", duty.told(15), 7);
        due("undo() itself takes one", duty.undo(), 6);
        due("how many", duty.told(15), 6);
    }

    @Says("Section 3: (20 at most are kept, the oldest are lost):")
    void twentyAreKept() {
        for (int many = 19; many <= 45; many++) {
            MindDuty duty = Checks.made("g9 0;i1;i1;i1;i1;i1;i1;");
            int[] was = new int[many + 1];
            for (int k = 0; k < many; k++) {
                duty.register(Integer.numberOfTrailingZeros(k + 1), (k + 1 >> Integer.numberOfTrailingZeros(k + 1) + 1) % 2 == 0);
                was[k + 1] = duty.told(7);
            }
            int kept = Math.min(many, 20);
            due("how many of " + many, duty.told(15), kept);
            for (int k = 1; k <= kept; k++) {
                due("undo() " + k + " of " + many, duty.undo(), kept - k);
                due("REGISTERED " + k + " of " + many, duty.told(7), was[many - k]);
            }
            due("no more of " + many, duty.undo(), NOT);
            due("REGISTERED behind " + many, duty.told(7), was[many - kept]);
        }
    }

    @Says("Section 3: all of section 2 is as ahead of it;")
    void allIsAsAhead() {
        undone("pass", Sentences::some, x -> x.pass(0));
        undone("goRound through", Sentences::rich, x -> x.goRound(1, true));
        undone("goRound lost", Sentences::rich, x -> x.goRound(0, false));
        undone("talk", Sentences::rich, x -> x.talk(0, 0, 1));
        undone("come", Sentences::rich, x -> x.come(2, 31));
        undone("register", Sentences::rich, x -> x.register(3, true));
        undone("striking", Sentences::rich, x -> x.register(2, false));
        undone("drift(1)", Sentences::rich, x -> x.drift(1));
        undone("drift(60)", Sentences::rich, x -> x.drift(60));
        undone("drift without anything", Sentences::bare, x -> x.drift(60));
    }

    @Says("Section 3: as ahead of it; THE SEED stays.")
    void seedStaysByUndo() {
        MindDuty duty = Checks.made("g9 0;i5;t0;");
        duty.drift(1);
        duty.undo();
        due("behind drift", duty.seed(7), 1406932606);
        duty.register(0, true);
        duty.seed(8);
        duty.undo();
        due("behind register and seed", duty.seed(0), 8);
    }

    // ---- images

    @Says("Section 3: IMAGES 0, 1 keep all of section 2, THE SEED.")
    void imagesKeepAll() {
        for (int i = 0; i <= 1; i++) {
            int image = i;
            same("IMAGE " + i, () -> keptAt(image), () -> {
                MindDuty duty = keptAt(image);
                duty.drift(60);
                duty.come(0, 31);
                duty.talk(0, 3, 0);
                duty.register(2, false);
                duty.seed(4321);
                duty.goBack(image);
                return duty;
            });
            MindDuty other = keptAt(i);
            other.register(0, false);
            other.register(1, false);
            other.keep(1 - i);
            other.goBack(i);
            due("IMAGE " + i + " by itself", other.told(7), 23);
            other.goBack(1 - i);
            due("and the other", other.told(7), 20);
        }
    }

    private static MindDuty keptAt(int image) {
        MindDuty duty = some();
        duty.seed(1234);
        duty.talk(1, 3, 0);
        duty.pass(0);
        duty.goRound(2, true);
        duty.keep(image);
        return duty;
    }
}
