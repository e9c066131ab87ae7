import java.util.function.Supplier;

/** 'Promise 1' to 'Promise 34': what each line says of its own call, with each refusal and each bound in it. */
public final class EdgePromisesTest extends Sentences {
    private static final int NONE = Checks.NONE;
    private static final int UNKNOWN = Checks.UNKNOWN;
    private static final int OUTSIDE = Checks.OUTSIDE;
    private static final int NOT = Checks.NOT;
    private static final int FULL = Checks.FULL;
    private static final int LEAST = Integer.MIN_VALUE;
    private static final int MOST = Integer.MAX_VALUE;

    public static void main(String[] args) {
        new EdgePromisesTest().runAll();
    }

    // ---- the pass

    @Says("Promise 1: No PASS.")
    void p01NoPass() {
        MindDuty duty = none();
        toldIs(duty, 0, 0, 0, 0, 0, 0, 0, 0, 0, 0, 0, 0, 0, 0, 0, 0);
        due("fault()", duty.fault(), NONE);
        due("size(0)", duty.size(0), UNKNOWN);
        due("traveller(0, 0)", duty.traveller(0, 0), UNKNOWN);
        due("drift(1)", duty.drift(1), NOT);
        due("undo()", duty.undo(), NOT);
        due("goBack(0)", duty.goBack(0), NOT);
        due("goBack(1)", duty.goBack(1), NOT);
        due("tear()", duty.tear(), 0);
        due("seed(0)", duty.seed(0), 0);
        MindDuty another = some();
        another.register(0, true);
        due("objects have nothing in common", none().told(7), 0);
    }

    @Says("Promise 2: One letter (a number 0 .. 255) comes behind THE TEXT: how many it has.")
    void p02OneLetter() {
        MindDuty duty = none();
        due("feed(0)", duty.feed(0), 1);
        due("feed(255)", duty.feed(255), 2);
        due("told(6)", duty.told(6), 2);
        refused("feed(-1)", Sentences::rich, x -> x.feed(-1), OUTSIDE);
        refused("feed(256)", Sentences::rich, x -> x.feed(256), OUTSIDE);
        MindDuty order = none();
        Checks.feed(order, "g1 0;");
        due("behind, not ahead", order.thePass(), 0);
        due("W", order.told(0), 1);
        for (int letter = 0; letter < 256; letter++) {
            due("feed(" + letter + ")", some().feed(letter), 1);
        }
    }

    @Says("Promise 2: OUTSIDE, FULL (240).")
    void p02OutsideAndFull() {
        for (int letter : new int[] {LEAST, -256, -1, 256, 257, 511, MOST}) {
            due("feed(" + letter + ")", none().feed(letter), OUTSIDE);
            due("feed(" + letter + ") at 240", full().feed(letter), OUTSIDE);
        }
        MindDuty duty = none();
        for (int k = 1; k <= 240; k++) {
            due("letter " + k, duty.feed(' '), k);
        }
        due("letter 241", duty.feed(' '), FULL);
        due("told(6)", duty.told(6), 240);
        refused("feed(32) at 240", Sentences::full, x -> x.feed(32), FULL);
        refused("feed(0) at 240", Sentences::full, x -> x.feed(0), FULL);
        duty.thePass();
        due("a letter behind thePass", duty.feed(' '), 1);
    }

    @Says("Promise 3: THE TEXT (it is empty then, with a FAULT, too) becomes THE PASS")
    void p03TextIsEmptyThen() {
        MindDuty duty = none();
        due("a good one", Checks.read(duty, "g7 3;i5;"), 1);
        due("letters", duty.told(6), 0);
        due("W", duty.told(0), 7);
        due("a fault", Checks.read(duty, "g8 3;i5;i6;x"), -11);
        due("letters", duty.told(6), 0);
        due("what is fed then is by itself", Checks.read(duty, "g9 3;i5;i6;"), 2);
        due("W", duty.told(0), 9);
        due("an empty one", duty.thePass(), 0);
        due("letters", duty.told(6), 0);
        due("W", duty.told(0), 0);
        MindDuty full = full();
        due("a full one", full.thePass(), 1);
        due("letters", full.told(6), 0);
        due("the first letter", full.feed('g'), 1);
    }

    /** So that all that thePass() should take away is there. */
    private static MindDuty used() {
        return used(some());
    }

    private static MindDuty used(MindDuty duty) {
        duty.talk(1, 3, 0);
        duty.pass(0);
        duty.goRound(2, false);
        duty.keep(0);
        duty.keep(1);
        duty.register(2, false);
        duty.register(3, true);
        duty.ask(1, 0, true);
        duty.ask(2, 0, false);
        duty.write(0, 0);
        return duty;
    }

    private static MindDuty usedAndReadAgain() {
        MindDuty duty = used();
        Checks.read(duty, SOME);
        return duty;
    }

    @Says("Promise 3: (nobody GONE, nothing PAID;")
    void p03NobodyGoneNothingPaid() {
        due("GONE ahead", used().told(9), 5);
        due("PAID ahead", used().told(11), 50);
        due("MINUTES ahead", used().told(12), 4);
        MindDuty duty = usedAndReadAgain();
        due("GONE", duty.told(9), 0);
        due("PAID", duty.told(11), 0);
        due("MINUTES", duty.told(12), 0);
        due("REGISTERED", duty.told(7), 4);
        due("his IDEAS", duty.traveller(1, 0), 9);
        same("it is as if read by a new object", Sentences::some, EdgePromisesTest::usedAndReadAgain);
        MindDuty other = used();
        due("another text", Checks.read(other, "g9 0;i5;t1;t0;"), 1);
        same("nothing of the former is left", () -> Checks.made("g9 0;i5;t1;t0;"), () -> {
            MindDuty again = used();
            Checks.read(again, "g9 0;i5;t1;t0;");
            return again;
        });
    }

    /** All that a text can tell, so that what is left of it would show. */
    private static final String MUCH = "g99 9;i9;i9;i9;i9;i9;i9;i9;i9;" + "j0 0 1;j1 1 2;".repeat(5) + "d0 2 5;d0 1 5;".repeat(5)
            + "r5;r6;t255;t1;t2;t3;t4;";

    @Says("Promise 3: THE TEXT (it is empty then, with a FAULT, too) becomes THE PASS")
    void p03NothingOfEarlierOnes() {
        String last = "g9 0;i30;i20;i5;t1;t7;";
        String[][] rows = {{MUCH}, {MUCH, "g1 0;"}, {MUCH, ""}, {"g1 0;", MUCH}, {MUCH, "g1 0;", "g2 0;"}, {MUCH, "g1 0;i5;x"},
            {"g1 0;", MUCH + "x"}};
        for (String[] row : rows) {
            same("behind " + row.length + " texts", () -> Checks.made(last), () -> {
                MindDuty duty = none();
                for (String text : row) {
                    Checks.read(duty, text);
                }
                Checks.read(duty, last);
                return duty;
            });
        }
        same("much behind much and little", () -> Checks.made(MUCH), () -> {
            MindDuty duty = Checks.made(last);
            Checks.read(duty, "g1 0;i5;i6;j0 0 1;");
            Checks.read(duty, MUCH);
            return duty;
        });
    }

    @Says("Promise 3: nothing ASKED, no BOOK;")
    void p03NothingAskedNoBook() {
        due("ASKED ahead", used().told(13), 2);
        due("entries ahead", used().told(14), 1);
        MindDuty duty = usedAndReadAgain();
        due("ASKED", duty.told(13), 0);
        due("entries", duty.told(14), 0);
        due("minds(0)", duty.minds(0), 32);
        due("judge()", duty.judge(), NONE);
        due("tear()", duty.tear(), 0);
    }

    @Says("Promise 3: IMAGES, what could be undone are gone;")
    void p03ImagesAndPastAreGone() {
        due("what could be undone ahead", used().told(15), 2);
        due("goBack(0) ahead", used().goBack(0), 1);
        due("goBack(1) ahead", used().goBack(1), 1);
        MindDuty duty = usedAndReadAgain();
        due("goBack(0)", duty.goBack(0), NOT);
        due("goBack(1)", duty.goBack(1), NOT);
        due("told(15)", duty.told(15), 0);
        due("undo()", duty.undo(), NOT);
        MindDuty empty = used();
        empty.thePass();
        due("goBack(0) behind an empty text", empty.goBack(0), NOT);
        due("undo() behind an empty text", empty.undo(), NOT);
    }

    @Says("Promise 3: THE SEED stays):")
    void p03SeedStays() {
        MindDuty duty = some();
        duty.seed(4321);
        Checks.read(duty, SOME);
        due("a good text", duty.seed(4321), 4321);
        duty.thePass();
        due("an empty text", duty.seed(4321), 4321);
        Checks.read(duty, "x");
        due("a fault", duty.seed(0), 4321);
    }

    @Says("Promise 3: how many IDEAS;")
    void p03HowManyIdeas() {
        due("an empty text", none().thePass(), 0);
        for (int ideas = 0; ideas <= 8; ideas++) {
            due(ideas + " IDEAS", Checks.read(none(), "g1 0;" + "i1;".repeat(ideas)), ideas);
        }
    }

    @Says("Promise 3: -10 less the number of its FAULT")
    void p03NumberOfTheFault() {
        due("1", Checks.read(none(), "x"), -11);
        due("2", Checks.read(none(), "g0 0;"), -12);
        due("3", Checks.read(none(), "g1 0;g"), -13);
        due("4", Checks.read(none(), "g1 0;i1;r0;r0;"), -14);
    }

    @Says("Promise 3: (all else is as it was).")
    void p03AllElseAsItWas() {
        for (String text : new String[] {"x", "g", "g8 9;i9;i8;i7;j0 0 1;d0 1 5;r0;t7;t7;t7;t7;t7;t", "g1 0;i1;r0;r0;", "g0 0;"}) {
            // fault() is another then: so it is compared with one that had the same FAULT ahead of all that was done
            same("behind [" + text + "]", () -> {
                MindDuty duty = some();
                Checks.read(duty, text);
                return used(duty);
            }, () -> {
                MindDuty duty = used();
                Checks.read(duty, text);
                return duty;
            });
            MindDuty duty = used();
            Checks.read(duty, text);
            due("undo()", duty.undo(), 1);
            due("REGISTERED", duty.told(7), 3);
            due("ASKED", duty.told(13), 2);
            due("goBack(0)", duty.goBack(0), 1);
            due("REGISTERED in IMAGE 0", duty.told(7), 7);
            due("PAID in IMAGE 0", duty.told(11), 50);
        }
        MindDuty never = none();
        Checks.read(never, "g8 9;i9;x");
        due("no PASS is no PASS still", never.drift(1), NOT);
        toldIs(never, 0, 0, 0, 0, 0, 0, 0, 0, 0, 0, 0, 0, 0, 0, 0, 0);
    }

    @Says("Promise 4: The letter of the FAULT of the latest thePass();")
    void p04LetterOfTheFault() {
        MindDuty duty = none();
        Checks.read(duty, "x");
        due("the first letter", duty.fault(), 0);
        Checks.read(duty, "g1 0;" + " ".repeat(234) + "x");
        due("the last letter", duty.fault(), 239);
        Checks.read(duty, " ".repeat(236) + "g1 0");
        due("the end of the longest text", duty.fault(), 240);
        Checks.read(duty, "g1 0;i5;g");
        due("the latest", duty.fault(), 8);
        duty.feed('g');
        due("letters don't change it", duty.fault(), 8);
    }

    @Says("Promise 4: NONE.")
    void p04NoFault() {
        MindDuty duty = none();
        due("new", duty.fault(), NONE);
        Checks.read(duty, "g1 0;");
        due("a good text", duty.fault(), NONE);
        Checks.read(duty, "g");
        due("a fault", duty.fault(), 1);
        Checks.read(duty, "g1 0;");
        due("a good text again", duty.fault(), NONE);
        Checks.read(duty, "g");
        duty.thePass();
        due("an empty text", duty.fault(), NONE);
    }

    @Says("Promise 5: 0 W, 1 Q, 2 IDEAS, 3 JOININGS, 4 TALKS, 5 TRAVELLERS,")
    void p05OfThePass() {
        toldIs(Checks.made("g40 7;i30;i20;i3;j0 0 1;j1 1 2;d0 1 5;t1;t3;t7;t2;"), 40, 7, 3, 2, 1, 4);
        toldIs(Checks.made("g999 99;i1;i1;i1;i1;i1;i1;i1;i1;" + "j0 0 1;".repeat(10) + "d0 1 1;".repeat(10) + "t0;t0;t0;t0;t0;"), 999, 99, 8, 10, 10, 5);
        toldIs(Checks.made("g1 0;"), 1, 0, 0, 0, 0, 0);
        toldIs(none(), 0, 0, 0, 0, 0, 0);
    }

    @Says("Promise 5: 6 letters of THE TEXT,")
    void p05Letters() {
        MindDuty duty = none();
        due("none", duty.told(6), 0);
        duty.feed(0);
        due("one", duty.told(6), 1);
        due("240", full().told(6), 240);
    }

    @Says("Promise 5: 7 REGISTERED, 8 IN THE COUNTRY (SETS),")
    void p05Registered() {
        MindDuty duty = Checks.made("g9 0;i1;i1;i1;j0 0 2;");
        due("none", duty.told(7), 0);
        due("none", duty.told(8), 0);
        duty.register(0, true);
        due("one", duty.told(7), 1);
        due("and what FOLLOWS", duty.told(8), 5);
        due("all eight", Checks.made("g9 0;i1;i1;i1;i1;i1;i1;i1;i1;r0;r1;r2;r3;r4;r5;r6;r7;").told(7), 255);
        due("all eight", Checks.made("g9 0;i1;i1;i1;i1;i1;i1;i1;i1;r0;r1;r2;r3;r4;r5;r6;r7;").told(8), 255);
    }

    @Says("Promise 5: 9 who is GONE,")
    void p05Gone() {
        MindDuty duty = Checks.made("g9 0;t0;t0;t0;t0;t0;");
        int gone = 0;
        due("nobody", duty.told(9), 0);
        for (int t : new int[] {4, 0, 2, 1, 3}) {
            duty.pass(t);
            gone |= 1 << t;
            due("and " + t, duty.told(9), gone);
        }
        duty.come(3, 0);
        due("but 3", duty.told(9), 23);
    }

    @Says("Promise 5: 10 who is STUCK of those that are not (SETS of TRAVELLERS),")
    void p05Stuck() {
        MindDuty duty = Checks.made("g9 0;i10;i9;t1;t2;t1;t3;t1;");
        due("who is", duty.told(10), 29);
        duty.goRound(0, true);
        due("not who is GONE", duty.told(10), 28);
        duty.goRound(4, false);
        due("not who was lost", duty.told(10), 12);
        duty.come(0, 1);
        due("who COMES again", duty.told(10), 13);
        due("nobody at the gate's own size", Checks.made("g10 0;i10;t1;").told(10), 0);
    }

    @Says("Promise 5: 11 PAID, 12 MINUTES,")
    void p05Counted() {
        MindDuty duty = Checks.made("g9 0;i9;i5;d0 1 7;t1;t1;t2;");
        due("nothing PAID", duty.told(11), 0);
        due("no MINUTES", duty.told(12), 0);
        duty.talk(0, 0, 1);
        due("nothing PAID by talk", duty.told(11), 0);
        due("MINUTES", duty.told(12), 7);
        duty.talk(1, 0, 1);
        due("MINUTES together", duty.told(12), 14);
        duty.pass(0);
        due("PAID", duty.told(11), 5);
        due("MINUTES as ahead", duty.told(12), 14);
        duty.come(0, 1);
        duty.pass(0);
        due("PAID together", duty.told(11), 14);
    }

    @Says("Promise 5: 13 what was ASKED, 14 entries of THE BOOK,")
    void p05AskedAndWritten() {
        MindDuty duty = some();
        due("nothing ASKED", duty.told(13), 0);
        due("no entry", duty.told(14), 0);
        duty.ask(1, 0, true);
        due("one ASKED", duty.told(13), 1);
        due("no entry still", duty.told(14), 0);
        duty.write(0, 0);
        duty.write(0, 0);
        due("one ASKED still", duty.told(13), 1);
        due("two entries", duty.told(14), 2);
        due("six ASKED", full().told(13), 6);
        due("fifteen entries", full().told(14), 15);
    }

    @Says("Promise 5: 15 how many can be undone.")
    void p05Undone() {
        MindDuty duty = some();
        due("none", duty.told(15), 0);
        duty.register(0, true);
        due("one", duty.told(15), 1);
        duty.undo();
        due("none again", duty.told(15), 0);
        due("twenty", full().told(15), 20);
    }

    @Says("Promise 5: OUTSIDE.")
    void p05Outside() {
        for (int what : new int[] {LEAST, -16, -1, 16, 17, 32, MOST}) {
            refused("told(" + what + ")", Sentences::rich, x -> x.told(what), OUTSIDE);
            due("new: told(" + what + ")", none().told(what), OUTSIDE);
        }
        due("told(0)", some().told(0), 50);
        due("told(15)", some().told(15), 0);
    }

    @Says("Promise 6: SIZE of an IDEA.")
    void p06Size() {
        for (int i = 0; i < 8; i++) {
            due("size(" + i + ")", eight().size(i), i + 1);
        }
    }

    @Says("Promise 6: UNKNOWN.")
    void p06Unknown() {
        refused("size(-1)", Sentences::rich, x -> x.size(-1), UNKNOWN);
        refused("size(5)", Sentences::rich, x -> x.size(5), UNKNOWN);
        due("size(8) of eight", eight().size(8), UNKNOWN);
        due("without IDEAS", bare().size(0), UNKNOWN);
        due("without a PASS", none().size(0), UNKNOWN);
        due("size(MIN)", eight().size(LEAST), UNKNOWN);
        due("size(MAX)", eight().size(MOST), UNKNOWN);
        MindDuty duty = eight();
        Checks.read(duty, "g1 0;i5;");
        due("one that there was", duty.size(1), UNKNOWN);
    }

    @Says("Promise 7: Of a TRAVELLER: what = 0 his IDEAS, 1 their SIZE together, 2 what he owes,")
    void p07OfATraveller() {
        MindDuty duty = Checks.made("g40 7;i30;i21;i3;j0 0 1;r2;t7;t6;t0;");
        int[][] due = {{7, 54, 40}, {6, 24, 21}, {0, 0, 0}};
        for (int t = 0; t < 3; t++) {
            for (int what = 0; what < 3; what++) {
                due("traveller(" + t + ", " + what + ")", duty.traveller(t, what), due[t][what]);
            }
        }
        due("all eight of 99", Checks.made("g1 0;i99;i99;i99;i99;i99;i99;i99;i99;t255;").traveller(0, 1), 792);
    }

    @Says("Promise 7: 3 1 he is GONE, 0 not.")
    void p07Gone() {
        MindDuty duty = some();
        due("not", duty.traveller(0, 3), 0);
        duty.pass(0);
        due("he is", duty.traveller(0, 3), 1);
        due("another is not", duty.traveller(1, 3), 0);
        duty.come(0, 1);
        due("not again", duty.traveller(0, 3), 0);
        duty.goRound(0, true);
        due("he is again", duty.traveller(0, 3), 1);
        duty.undo();
        due("undone", duty.traveller(0, 3), 0);
    }

    @Says("Promise 7: UNKNOWN, OUTSIDE.")
    void p07UnknownOutside() {
        refused("traveller(-1, 0)", Sentences::rich, x -> x.traveller(-1, 0), UNKNOWN);
        refused("traveller(4, 0)", Sentences::rich, x -> x.traveller(4, 0), UNKNOWN);
        refused("traveller(3, -1)", Sentences::rich, x -> x.traveller(3, -1), OUTSIDE);
        refused("traveller(3, 4)", Sentences::rich, x -> x.traveller(3, 4), OUTSIDE);
        due("traveller(3, 3)", rich().traveller(3, 3), 0);
        due("traveller(5, 3) of five", eight().traveller(5, 3), UNKNOWN);
        due("without a PASS", none().traveller(0, 0), UNKNOWN);
        due("without TRAVELLERS", bare().traveller(0, 0), UNKNOWN);
        due("traveller(0, MIN)", some().traveller(0, LEAST), OUTSIDE);
        due("traveller(0, MAX)", some().traveller(0, MOST), OUTSIDE);
    }

    // ---- what is done

    @Says("Promise 8: PASSES: what he pays.")
    void p08Passes() {
        due("at the gate's own size", some().pass(0), 50);
        due("what is there", some().pass(2), 0);
        due("nothing", some().pass(3), 0);
        MindDuty duty = some();
        duty.pass(0);
        due("PAID", duty.told(11), 50);
        due("REGISTERED", duty.told(7), 7);
        due("GONE", duty.told(9), 1);
    }

    @Says("Promise 8: UNKNOWN,")
    void p08Unknown() {
        refused("pass(-1)", Sentences::rich, x -> x.pass(-1), UNKNOWN);
        refused("pass(4)", Sentences::rich, x -> x.pass(4), UNKNOWN);
        refused("without a PASS", Sentences::none, x -> x.pass(0), UNKNOWN);
        refused("without TRAVELLERS", Sentences::bare, x -> x.pass(0), UNKNOWN);
    }

    @Says("Promise 8: NOT: he is GONE, STUCK.")
    void p08GoneOrStuck() {
        refused("STUCK", Sentences::rich, x -> x.pass(0), NOT);
        refused("lost", Sentences::rich, x -> x.pass(2), NOT);
        refused("PASSED", Sentences::full, x -> x.pass(2), NOT);
        refused("GONE and STUCK", () -> {
            MindDuty duty = some();
            duty.goRound(1, true);
            return duty;
        }, x -> x.pass(1), NOT);
    }

    @Says("Promise 9: GOES ROUND (comes through, or is lost): 1 he brings what was not IN THE COUNTRY, 0 not.")
    void p09GoesRound() {
        due("through, with news", some().goRound(0, true), 1);
        due("through, with news among others", Checks.made("g9 0;i1;i1;r0;t3;").goRound(0, true), 1);
        due("through, STUCK", some().goRound(1, true), 1);
        due("through, with what is REGISTERED or FOLLOWS", some().goRound(2, true), 0);
        due("through, with nothing", some().goRound(3, true), 0);
        due("lost, he brings nothing", some().goRound(0, false), 0);
        MindDuty twice = Checks.made("g9 0;i1;t1;t1;");
        due("the first", twice.goRound(0, true), 1);
        due("the second with the same", twice.goRound(1, true), 0);
    }

    @Says("Promise 9: UNKNOWN,")
    void p09Unknown() {
        refused("goRound(-1, true)", Sentences::rich, x -> x.goRound(-1, true), UNKNOWN);
        refused("goRound(4, false)", Sentences::rich, x -> x.goRound(4, false), UNKNOWN);
        refused("without a PASS", Sentences::none, x -> x.goRound(0, true), UNKNOWN);
        refused("without TRAVELLERS", Sentences::bare, x -> x.goRound(0, false), UNKNOWN);
    }

    @Says("Promise 9: NOT: he is GONE.")
    void p09Gone() {
        refused("lost, through", Sentences::rich, x -> x.goRound(2, true), NOT);
        refused("lost, lost again", Sentences::rich, x -> x.goRound(2, false), NOT);
        refused("PASSED", Sentences::full, x -> x.goRound(2, true), NOT);
    }

    @Says("Promise 10: TALKED down by a TALK from one IDEA to another: MINUTES of it.")
    void p10Talked() {
        MindDuty duty = some();
        due("talk(1, 3, 0): both were his", duty.talk(1, 3, 0), 4);
        due("his IDEAS", duty.traveller(1, 0), 1);
        due("talk(1, 0, 2)", duty.talk(1, 0, 2), 7);
        due("his IDEAS", duty.traveller(1, 0), 4);
        due("MINUTES of both", duty.told(12), 11);
        due("one who is not STUCK, too", duty.talk(0, 1, 2), 3);
        due("99", Checks.made("g9 0;i1;i1;d0 1 99;t1;").talk(0, 0, 1), 99);
        due("1", Checks.made("g9 0;i1;i1;d0 1 1;t1;").talk(0, 0, 1), 1);
    }

    @Says("Promise 10: UNKNOWN,")
    void p10Unknown() {
        refused("talk(-1, 0, 1)", Sentences::rich, x -> x.talk(-1, 0, 1), UNKNOWN);
        refused("talk(4, 0, 1)", Sentences::rich, x -> x.talk(4, 0, 1), UNKNOWN);
        refused("talk(0, -1, 1)", Sentences::rich, x -> x.talk(0, -1, 1), UNKNOWN);
        refused("talk(0, 5, 1)", Sentences::rich, x -> x.talk(0, 5, 1), UNKNOWN);
        refused("talk(0, 0, -1)", Sentences::rich, x -> x.talk(0, 0, -1), UNKNOWN);
        refused("talk(0, 0, 5)", Sentences::rich, x -> x.talk(0, 0, 5), UNKNOWN);
        refused("talk(0, 32, 33)", Sentences::rich, x -> x.talk(0, 32, 33), UNKNOWN);
        refused("without a PASS", Sentences::none, x -> x.talk(0, 0, 0), UNKNOWN);
        refused("without IDEAS", () -> Checks.made("g9 0;t0;"), x -> x.talk(0, 0, 0), UNKNOWN);
    }

    @Says("Promise 10: NOT: he is GONE, has not that IDEA, there is no such TALK.")
    void p10Not() {
        refused("GONE", Sentences::rich, x -> x.talk(2, 2, 4), NOT);
        refused("he has not that IDEA", Sentences::rich, x -> x.talk(1, 1, 2), NOT);
        refused("he has nothing", Sentences::rich, x -> x.talk(3, 0, 1), NOT);
        refused("no such TALK", Sentences::rich, x -> x.talk(0, 3, 1), NOT);
        refused("not the other way", Sentences::rich, x -> x.talk(0, 0, 3), NOT);
        refused("not to itself", Sentences::rich, x -> x.talk(0, 0, 0), NOT);
        due("else it is", rich().talk(0, 0, 1), 5);
    }

    @Says("Promise 11: COMES again with other IDEAS: what he owes.")
    void p11Comes() {
        MindDuty duty = some();
        duty.goRound(0, false);
        due("come(0, 31): 30, 20, half of 40, free, free", duty.come(0, 31), 15 + 20 + 20);
        due("his IDEAS", duty.traveller(0, 0), 31);
        due("nothing PAID by it", duty.told(11), 0);
        due("not GONE", duty.told(9), 0);
        duty.goRound(0, false);
        due("come(0, 0)", duty.come(0, 0), 0);
        duty.goRound(0, false);
        due("come(0, 20): what is there", duty.come(0, 20), 0);
        duty.goRound(0, false);
        due("come(0, 20): as he was", duty.come(0, 20), 0);
    }

    @Says("Promise 11: UNKNOWN,")
    void p11Unknown() {
        refused("come(-1, 0)", Sentences::rich, x -> x.come(-1, 0), UNKNOWN);
        refused("come(4, 0)", Sentences::rich, x -> x.come(4, 0), UNKNOWN);
        refused("come(2, -1)", Sentences::rich, x -> x.come(2, -1), UNKNOWN);
        refused("come(2, 32)", Sentences::rich, x -> x.come(2, 32), UNKNOWN);
        refused("come(2, 33)", Sentences::rich, x -> x.come(2, 33), UNKNOWN);
        refused("come(2, MIN)", Sentences::rich, x -> x.come(2, LEAST), UNKNOWN);
        holds("come(2, 31)", rich().come(2, 31) >= 0);
        refused("without a PASS", Sentences::none, x -> x.come(0, 0), UNKNOWN);
        refused("without TRAVELLERS", Sentences::bare, x -> x.come(0, 0), UNKNOWN);
    }

    @Says("Promise 11: NOT: he is not GONE.")
    void p11NotGone() {
        refused("STUCK", Sentences::rich, x -> x.come(0, 1), NOT);
        refused("not STUCK", Sentences::rich, x -> x.come(3, 1), NOT);
        refused("come again", () -> {
            MindDuty duty = rich();
            duty.come(2, 1);
            return duty;
        }, x -> x.come(2, 2), NOT);
    }

    @Says("Promise 12: An IDEA is REGISTERED (is), or STRUCK: 1 it was REGISTERED, 0 not.")
    void p12Registers() {
        for (int i = 0; i < 8; i++) {
            MindDuty duty = Checks.made("g9 0;i1;i1;i1;i1;i1;i1;i1;i1;j0 0 1;");
            due("it was not", duty.register(i, false), 0);
            due("REGISTERED", duty.told(7), 0);
            due("it was not", duty.register(i, true), 0);
            due("REGISTERED", duty.told(7), 1 << i);
            due("it was", duty.register(i, true), 1);
            due("REGISTERED", duty.told(7), 1 << i);
            due("it was", duty.register(i, false), 1);
            due("REGISTERED", duty.told(7), 0);
        }
        MindDuty duty = some();
        due("what is there, but not REGISTERED", duty.register(4, true), 0);
    }

    @Says("Promise 12: UNKNOWN.")
    void p12Unknown() {
        refused("register(-1, true)", Sentences::rich, x -> x.register(-1, true), UNKNOWN);
        refused("register(5, true)", Sentences::rich, x -> x.register(5, true), UNKNOWN);
        refused("register(5, false)", Sentences::rich, x -> x.register(5, false), UNKNOWN);
        refused("register(32, true)", Sentences::rich, x -> x.register(32, true), UNKNOWN);
        refused("without a PASS", Sentences::none, x -> x.register(0, true), UNKNOWN);
        refused("without IDEAS", Sentences::bare, x -> x.register(0, true), UNKNOWN);
        refused("of eight", Sentences::eight, x -> x.register(8, true), UNKNOWN);
    }

    @Says("Promise 13: n days (1 .. 60) BY DRAWS: PAID.")
    void p13Days() {
        MindDuty duty = Checks.made("g6 88;i1;i1;i6;t0;t1;t0;");
        due("one day", duty.drift(1), 6);
        due("one TRAVELLER", duty.told(9), 1);
        duty.undo();
        duty.seed(0);
        duty.pass(1);
        due("PAID ahead counts, too", duty.drift(1), 7);
        due("it is PAID", duty.told(11), 7);
        MindDuty sixty = some();
        MindDuty days = some();
        int paid = 0;
        for (int day = 0; day < 60; day++) {
            paid = days.drift(1);
        }
        due("sixty days", sixty.drift(60), paid);
        due("THE SEED", sixty.seed(0), days.seed(0));
        due("REGISTERED", sixty.told(7), days.told(7));
    }

    @Says("Promise 13: OUTSIDE, NOT: no PASS.")
    void p13OutsideNot() {
        refused("drift(0)", Sentences::rich, x -> x.drift(0), OUTSIDE);
        refused("drift(61)", Sentences::rich, x -> x.drift(61), OUTSIDE);
        refused("drift(-1)", Sentences::rich, x -> x.drift(-1), OUTSIDE);
        refused("drift(MIN)", Sentences::rich, x -> x.drift(LEAST), OUTSIDE);
        refused("drift(MAX)", Sentences::rich, x -> x.drift(MOST), OUTSIDE);
        refused("new: drift(1)", Sentences::none, x -> x.drift(1), NOT);
        refused("new: drift(60)", Sentences::none, x -> x.drift(60), NOT);
        refused("behind an empty text", () -> {
            MindDuty duty = some();
            duty.thePass();
            return duty;
        }, x -> x.drift(1), NOT);
        due("a PASS without anything is one", bare().drift(1), 0);
    }

    @Says("Promise 14: The latest is undone: how many more can be.")
    void p14Undone() {
        MindDuty duty = some();
        duty.register(0, true);
        duty.register(1, true);
        due("two are left of", duty.told(7), 7);
        due("the latest", duty.undo(), 1);
        due("REGISTERED", duty.told(7), 5);
        due("the one ahead", duty.undo(), 0);
        due("REGISTERED", duty.told(7), 4);
        duty.register(3, true);
        due("one behind undo()", duty.undo(), 0);
        due("REGISTERED", duty.told(7), 4);
        MindDuty full = full();
        for (int k = 19; k >= 0; k--) {
            due("of twenty", full.undo(), k);
        }
        due("no more", full.undo(), NOT);
    }

    @Says("Promise 14: NOT: none.")
    void p14None() {
        refused("new", Sentences::none, MindDuty::undo, NOT);
        refused("nothing done", Sentences::some, MindDuty::undo, NOT);
        refused("all undone", () -> {
            MindDuty duty = some();
            duty.pass(0);
            duty.undo();
            return duty;
        }, MindDuty::undo, NOT);
        refused("behind keep", () -> {
            MindDuty duty = rich();
            duty.keep(0);
            return duty;
        }, MindDuty::undo, NOT);
        refused("behind goBack", () -> {
            MindDuty duty = rich();
            duty.goBack(1);
            return duty;
        }, MindDuty::undo, NOT);
    }

    // ---- tried

    @Says("Promise 15: What FOLLOWS from a SET.")
    void p15Follows() {
        MindDuty duty = some();
        due("follows(0)", duty.follows(0), 0);
        due("follows(3)", duty.follows(3), 11);
        due("follows(4)", duty.follows(4), 20);
        due("follows(12)", duty.follows(12), 29);
        due("follows(31)", duty.follows(31), 31);
        due("what is REGISTERED does not matter", duty.follows(8), 8);
    }

    @Says("Promise 15: UNKNOWN.")
    void p15Unknown() {
        refused("follows(32)", Sentences::rich, x -> x.follows(32), UNKNOWN);
        refused("follows(-1)", Sentences::rich, x -> x.follows(-1), UNKNOWN);
        due("of eight", eight().follows(256), UNKNOWN);
        due("the last of eight", eight().follows(255), 255);
        due("without a PASS", none().follows(1), UNKNOWN);
        due("nothing without a PASS", none().follows(0), 0);
    }

    @Says("Promise 16: OWED for a SET.")
    void p16Owed() {
        MindDuty duty = some();
        due("owed(0)", duty.owed(0), 0);
        due("owed(3)", duty.owed(3), 50);
        due("owed(11): the third is half", duty.owed(11), 70);
        due("owed(20): free", duty.owed(20), 0);
        due("owed(31)", duty.owed(31), 55);
    }

    @Says("Promise 16: UNKNOWN.")
    void p16Unknown() {
        refused("owed(32)", Sentences::rich, x -> x.owed(32), UNKNOWN);
        refused("owed(-1)", Sentences::rich, x -> x.owed(-1), UNKNOWN);
        due("of eight", eight().owed(256), UNKNOWN);
        due("all of eight: 1, half of 2, 3, free, 5 .. 8", eight().owed(255), 1 + 1 + 3 + 5 + 6 + 7 + 8);
        due("without a PASS", none().owed(1), UNKNOWN);
        due("nothing without a PASS", none().owed(0), 0);
    }

    @Says("Promise 17: PARTS: what = 0 the SET, 1 how much; NONE.")
    void p17Parts() {
        MindDuty duty = some();
        due("the SET", duty.parts(3, 0), 3);
        due("how much", duty.parts(3, 1), 50);
        due("NONE", duty.parts(1, 0), NONE);
        due("NONE of how much", duty.parts(1, 1), NONE);
        due("it is there", duty.parts(4, 0), 0);
        due("for nothing", duty.parts(4, 1), 0);
    }

    @Says("Promise 17: UNKNOWN, OUTSIDE.")
    void p17UnknownOutside() {
        refused("parts(5, 0)", Sentences::rich, x -> x.parts(5, 0), UNKNOWN);
        refused("parts(-1, 0)", Sentences::rich, x -> x.parts(-1, 0), UNKNOWN);
        refused("parts(0, -1)", Sentences::rich, x -> x.parts(0, -1), OUTSIDE);
        refused("parts(0, 2)", Sentences::rich, x -> x.parts(0, 2), OUTSIDE);
        due("parts(1, 2): NONE or not", some().parts(1, 2), OUTSIDE);
        due("without a PASS", none().parts(0, 0), UNKNOWN);
    }

    @Says("Promise 18: TALK: what = 0 minutes, 1 the IDEA next (itself: NONE); NONE.")
    void p18TalkDown() {
        MindDuty duty = some();
        due("minutes", duty.talkDown(3, 4, 0), 12);
        due("next", duty.talkDown(3, 4, 1), 0);
        due("itself", duty.talkDown(3, 3, 0), 0);
        due("next to itself", duty.talkDown(3, 3, 1), NONE);
        due("NONE", duty.talkDown(4, 3, 0), NONE);
        due("NONE next", duty.talkDown(4, 3, 1), NONE);
    }

    @Says("Promise 18: UNKNOWN, OUTSIDE.")
    void p18UnknownOutside() {
        refused("talkDown(5, 0, 0)", Sentences::rich, x -> x.talkDown(5, 0, 0), UNKNOWN);
        refused("talkDown(0, 5, 0)", Sentences::rich, x -> x.talkDown(0, 5, 0), UNKNOWN);
        refused("talkDown(-1, 0, 0)", Sentences::rich, x -> x.talkDown(-1, 0, 0), UNKNOWN);
        refused("talkDown(0, -1, 0)", Sentences::rich, x -> x.talkDown(0, -1, 0), UNKNOWN);
        refused("talkDown(5, 5, 0)", Sentences::rich, x -> x.talkDown(5, 5, 0), UNKNOWN);
        refused("talkDown(3, 0, -1)", Sentences::rich, x -> x.talkDown(3, 0, -1), OUTSIDE);
        refused("talkDown(3, 0, 2)", Sentences::rich, x -> x.talkDown(3, 0, 2), OUTSIDE);
        due("talkDown(0, 0, 2): itself or not", some().talkDown(0, 0, 2), OUTSIDE);
        due("without a PASS", none().talkDown(0, 0, 0), UNKNOWN);
    }

    @Says("Promise 19: SOONEST; NONE.")
    void p19Soonest() {
        due("not STUCK", some().soonest(0), 0);
        due("STUCK", some().soonest(1), 4);
        due("nothing in mind", some().soonest(3), 0);
        due("NONE", Checks.made("g9 0;i10;t1;").soonest(0), NONE);
    }

    @Says("Promise 19: UNKNOWN, NOT: he is GONE.")
    void p19UnknownNot() {
        refused("soonest(-1)", Sentences::rich, x -> x.soonest(-1), UNKNOWN);
        refused("soonest(4)", Sentences::rich, x -> x.soonest(4), UNKNOWN);
        refused("GONE", Sentences::rich, x -> x.soonest(2), NOT);
        refused("GONE, STUCK", () -> {
            MindDuty duty = some();
            duty.goRound(1, false);
            return duty;
        }, x -> x.soonest(1), NOT);
        due("without a PASS", none().soonest(0), UNKNOWN);
    }

    @Says("Promise 20: what = 0 SMALLEST, 1 NEEDLESS.")
    void p20Smallest() {
        MindDuty duty = Checks.made("g9 0;i1;i1;i1;j0 0 1;j1 1 2;r0;r1;r2;");
        due("SMALLEST", duty.smallest(0), 1);
        due("NEEDLESS", duty.smallest(1), 6);
        due("SMALLEST without a PASS", none().smallest(0), 0);
        due("NEEDLESS without a PASS", none().smallest(1), 0);
    }

    @Says("Promise 20: OUTSIDE.")
    void p20Outside() {
        for (int what : new int[] {LEAST, -1, 2, MOST}) {
            refused("smallest(" + what + ")", Sentences::rich, x -> x.smallest(what), OUTSIDE);
            due("new: smallest(" + what + ")", none().smallest(what), OUTSIDE);
        }
    }

    @Says("Promise 21: BETTER.")
    void p21Better() {
        due("to go round", some().better(0, 249), 1);
        due("to PASS", some().better(0, 250), 0);
        due("STUCK", some().better(1, 9999), 1);
        due("nothing in mind", some().better(3, 0), 0);
    }

    @Says("Promise 21: UNKNOWN, OUTSIDE, NOT: he is GONE.")
    void p21Refusals() {
        refused("better(-1, 0)", Sentences::rich, x -> x.better(-1, 0), UNKNOWN);
        refused("better(4, 0)", Sentences::rich, x -> x.better(4, 0), UNKNOWN);
        refused("better(0, -1): STUCK", Sentences::rich, x -> x.better(0, -1), OUTSIDE);
        refused("better(1, -1)", Sentences::rich, x -> x.better(1, -1), OUTSIDE);
        refused("better(1, 10000)", Sentences::rich, x -> x.better(1, 10000), OUTSIDE);
        refused("better(1, MIN)", Sentences::rich, x -> x.better(1, LEAST), OUTSIDE);
        refused("better(1, MAX)", Sentences::rich, x -> x.better(1, MOST), OUTSIDE);
        refused("better(2, 0): GONE", Sentences::rich, x -> x.better(2, 0), NOT);
        refused("better(2, 9999): GONE", Sentences::rich, x -> x.better(2, 9999), NOT);
        refused("GONE, STUCK", () -> {
            MindDuty duty = some();
            duty.goRound(1, false);
            return duty;
        }, x -> x.better(1, 5), NOT);
        due("without a PASS", none().better(0, 0), UNKNOWN);
    }

    @Says("Promise 22: GAINS.")
    void p22Gains() {
        due("the same", some().gains(0, 4), 1000);
        due("less there", some().gains(0, 3), 1050);
        due("more there", some().gains(2, 0), 1000 - 9 - 2);
        due("STUCK", some().gains(1, 31), 1070);
    }

    @Says("Promise 22: UNKNOWN, NOT: he is GONE.")
    void p22UnknownNot() {
        refused("gains(-1, 0)", Sentences::rich, x -> x.gains(-1, 0), UNKNOWN);
        refused("gains(4, 0)", Sentences::rich, x -> x.gains(4, 0), UNKNOWN);
        refused("gains(0, -1)", Sentences::rich, x -> x.gains(0, -1), UNKNOWN);
        refused("gains(0, 32)", Sentences::rich, x -> x.gains(0, 32), UNKNOWN);
        refused("gains(2, 0): GONE", Sentences::rich, x -> x.gains(2, 0), NOT);
        due("without a PASS", none().gains(0, 0), UNKNOWN);
    }

    @Says("Promise 23: FREE.")
    void p23Free() {
        due("what FOLLOWS", some().free(), 16);
        due("nothing", Checks.made("g9 0;i1;r0;").free(), 0);
        due("without a PASS", none().free(), 0);
    }

    @Says("Promise 24: SHARE.")
    void p24Share() {
        due("50 of 120", some().share(0), 416);
        due("70 of 120", some().share(1), 583);
        due("0 of 120", some().share(2), 0);
        due("of nothing", Checks.made("g9 0;t0;").share(0), 0);
    }

    @Says("Promise 24: UNKNOWN, NOT: he is GONE.")
    void p24UnknownNot() {
        refused("share(-1)", Sentences::rich, x -> x.share(-1), UNKNOWN);
        refused("share(4)", Sentences::rich, x -> x.share(4), UNKNOWN);
        refused("share(2): GONE", Sentences::rich, x -> x.share(2), NOT);
        refused("GONE, nothing owed", () -> {
            MindDuty duty = Checks.made("g9 0;t0;");
            duty.pass(0);
            return duty;
        }, x -> x.share(0), NOT);
        due("without a PASS", none().share(0), UNKNOWN);
    }

    @Says("Promise 25: GLACIER.")
    void p25Glacier() {
        due("of none", some().glacier(0), 1000000000);
        due("of one", some().glacier(1), 800000000);
        due("of 60", some().glacier(60), 1531);
    }

    @Says("Promise 25: OUTSIDE.")
    void p25Outside() {
        for (int n : new int[] {LEAST, -1, 61, MOST}) {
            refused("glacier(" + n + ")", Sentences::rich, x -> x.glacier(n), OUTSIDE);
            due("new: glacier(" + n + ")", none().glacier(n), OUTSIDE);
        }
    }

    // ---- what was asked

    @Says("Promise 26: ASKED: how much.")
    void p26Asked() {
        MindDuty duty = some();
        for (int k = 1; k <= 6; k++) {
            due("ask", duty.ask(31, k, false), k);
        }
        due("without a PASS, of nothing", none().ask(0, 0, true), 1);
        due("how 0", some().ask(31, 0, true), 1);
        due("how 10", some().ask(31, 10, true), 1);
        MindDuty torn = full();
        torn.tear();
        due("behind tear()", torn.ask(3, 0, true), 1);
    }

    @Says("Promise 26: UNKNOWN, OUTSIDE (how 0 .. 10), FULL (6).")
    void p26Refusals() {
        refused("ask(32, 0, true)", Sentences::rich, x -> x.ask(32, 0, true), UNKNOWN);
        refused("ask(-1, 0, false)", Sentences::rich, x -> x.ask(-1, 0, false), UNKNOWN);
        refused("ask(1, -1, true)", Sentences::rich, x -> x.ask(1, -1, true), OUTSIDE);
        refused("ask(1, 11, true)", Sentences::rich, x -> x.ask(1, 11, true), OUTSIDE);
        refused("ask(1, MIN, true)", Sentences::rich, x -> x.ask(1, LEAST, true), OUTSIDE);
        refused("ask(1, MAX, true)", Sentences::rich, x -> x.ask(1, MOST, true), OUTSIDE);
        refused("ask(3, 1, true) behind six", Sentences::full, x -> x.ask(3, 1, true), FULL);
        refused("ask(3, 10, true) behind six", Sentences::full, x -> x.ask(3, 10, true), FULL);
        refused("ask(1, 0, true) without a PASS", Sentences::none, x -> x.ask(1, 0, true), UNKNOWN);
    }

    @Says("Promise 27: MINDS: what = 0 how many, 1 the least (NONE), 2 SURE.")
    void p27Minds() {
        MindDuty duty = some();
        due("how many", duty.minds(0), 32);
        due("the least", duty.minds(1), 0);
        due("SURE", duty.minds(2), 0);
        duty.ask(6, 1, true);
        due("how many", duty.minds(0), 8);
        due("the least", duty.minds(1), 6);
        due("SURE", duty.minds(2), 6);
        duty.ask(2, 0, false);
        due("how many of none", duty.minds(0), 0);
        due("the least of none", duty.minds(1), NONE);
        due("SURE of none", duty.minds(2), 0);
        due("how many without a PASS", none().minds(0), 1);
        due("the least without a PASS", none().minds(1), 0);
        due("SURE without a PASS", none().minds(2), 0);
    }

    @Says("Promise 27: OUTSIDE.")
    void p27Outside() {
        for (int what : new int[] {LEAST, -1, 3, MOST}) {
            refused("minds(" + what + ")", Sentences::rich, x -> x.minds(what), OUTSIDE);
            due("new: minds(" + what + ")", none().minds(what), OUTSIDE);
        }
    }

    @Says("Promise 28: ASK NEXT; NONE.")
    void p28AskNext() {
        MindDuty duty = some();
        due("any", duty.askNext(), 0);
        duty.ask(7, 0, true);
        due("the best", duty.askNext(), 3);
        duty.ask(31, 1, true);
        due("NONE", duty.askNext(), NONE);
        due("without a PASS", none().askNext(), NONE);
    }

    @Says("Promise 29: An entry behind THE BOOK (0, 1): how many.")
    void p29Writes() {
        MindDuty duty = some();
        due("0", duty.write(0, 0), 1);
        due("1", duty.write(0, 1), 2);
        due("behind", duty.judge(), 1);
        for (int k = 3; k <= 15; k++) {
            due("write", duty.write(4, 1), k);
        }
        MindDuty torn = full();
        torn.tear();
        due("behind tear()", torn.write(0, 0), 1);
    }

    @Says("Promise 29: UNKNOWN, OUTSIDE, FULL (15).")
    void p29Refusals() {
        refused("write(-1, 0)", Sentences::rich, x -> x.write(-1, 0), UNKNOWN);
        refused("write(5, 0)", Sentences::rich, x -> x.write(5, 0), UNKNOWN);
        refused("write(0, -1)", Sentences::rich, x -> x.write(0, -1), OUTSIDE);
        refused("write(0, 2)", Sentences::rich, x -> x.write(0, 2), OUTSIDE);
        refused("write(0, MIN)", Sentences::rich, x -> x.write(0, LEAST), OUTSIDE);
        refused("write(0, MAX)", Sentences::rich, x -> x.write(0, MOST), OUTSIDE);
        refused("write(0, 1) behind fifteen", Sentences::full, x -> x.write(0, 1), FULL);
        refused("write(1, 0) behind fifteen", Sentences::full, x -> x.write(1, 0), FULL);
        refused("without a PASS", Sentences::none, x -> x.write(0, 0), UNKNOWN);
    }

    @Says("Promise 30: Nothing ASKED, THE BOOK is empty: how much both had.")
    void p30Tears() {
        due("new", none().tear(), 0);
        due("nothing", some().tear(), 0);
        due("both at their most", full().tear(), 21);
        MindDuty duty = rich();
        due("two and three", duty.tear(), 5);
        due("ASKED", duty.told(13), 0);
        due("entries", duty.told(14), 0);
        due("minds(0)", duty.minds(0), 32);
        due("judge()", duty.judge(), NONE);
        due("once more", duty.tear(), 0);
        MindDuty asked = some();
        asked.ask(1, 0, true);
        due("ASKED alone", asked.tear(), 1);
        MindDuty written = some();
        written.write(0, 1);
        written.write(0, 1);
        due("entries alone", written.tear(), 2);
        Supplier<MindDuty> never = () -> done(false);
        same("all else stays", never, () -> {
            MindDuty torn = done(true);
            torn.tear();
            return torn;
        });
    }

    private static MindDuty done(boolean asks) {
        MindDuty duty = some();
        duty.seed(55);
        duty.keep(1);
        duty.pass(0);
        duty.register(3, true);
        if (asks) {
            duty.ask(1, 0, true);
            duty.write(0, 1);
        }
        Checks.feed(duty, "g1 0;");
        return duty;
    }

    @Says("Promise 31: WRONG; NONE.")
    void p31Judges() {
        MindDuty duty = some();
        due("an empty BOOK", duty.judge(), NONE);
        duty.write(2, 1);
        duty.write(4, 1);
        duty.write(0, 0);
        due("NONE", duty.judge(), NONE);
        duty.register(0, true);
        due("the third", duty.judge(), 2);
        duty.register(2, false);
        due("the first", duty.judge(), 0);
        due("without a PASS", none().judge(), NONE);
    }

    // ---- draws, images

    @Says("Promise 32: THE SEED becomes v (0 .. 2147483647): what it was.")
    void p32Seeds() {
        MindDuty duty = none();
        due("at first", duty.seed(2147483647), 0);
        due("the greatest", duty.seed(0), 2147483647);
        due("the least", duty.seed(1), 0);
        due("another", duty.seed(5), 1);
        MindDuty drawn = Checks.made("g9 0;i5;t0;");
        drawn.seed(2147483647);
        drawn.drift(1);
        due("behind DRAWS from the greatest", drawn.seed(0), 288979989);
        same("all else stays", Sentences::rich, () -> {
            MindDuty again = rich();
            again.seed(again.seed(9));
            return again;
        });
    }

    @Says("Promise 32: OUTSIDE.")
    void p32Outside() {
        refused("seed(-1)", Sentences::rich, x -> x.seed(-1), OUTSIDE);
        refused("seed(MIN)", Sentences::rich, x -> x.seed(LEAST), OUTSIDE);
        refused("new: seed(-1)", Sentences::none, x -> x.seed(-1), OUTSIDE);
    }

    @Says("Promise 33: IMAGE i becomes what is so (nothing can be undone then): 1.")
    void p33Keeps() {
        for (int i = 0; i <= 1; i++) {
            MindDuty duty = some();
            duty.register(0, true);
            due("what can be undone ahead", duty.told(15), 1);
            due("keep(" + i + ")", duty.keep(i), 1);
            due("what can be undone", duty.told(15), 0);
            due("undo()", duty.undo(), NOT);
            due("what is so stays", duty.told(7), 5);
            duty.register(1, true);
            due("keep(" + i + ") again", duty.keep(i), 1);
            duty.register(0, false);
            duty.goBack(i);
            due("the later one", duty.told(7), 7);
            due("the other was not kept", duty.goBack(1 - i), NOT);
            due("new: keep(" + i + ")", none().keep(i), 1);
            due("full: keep(" + i + ")", full().keep(i), 1);
        }
        MindDuty duty = rich();
        duty.keep(0);
        due("ASKED stays", duty.told(13), 2);
        due("THE BOOK stays", duty.told(14), 3);
        due("THE TEXT stays", duty.told(6), 14);
        due("THE SEED stays", duty.seed(0), 77);
        due("the FAULT stays", duty.fault(), 5);
    }

    @Says("Promise 33: UNKNOWN.")
    void p33Unknown() {
        refused("keep(-1)", Sentences::rich, x -> x.keep(-1), UNKNOWN);
        refused("keep(2)", Sentences::rich, x -> x.keep(2), UNKNOWN);
        refused("keep(MIN)", Sentences::rich, x -> x.keep(LEAST), UNKNOWN);
        refused("keep(MAX)", Sentences::rich, x -> x.keep(MOST), UNKNOWN);
        refused("new: keep(2)", Sentences::none, x -> x.keep(2), UNKNOWN);
    }

    @Says("Promise 34: What is so becomes IMAGE i (nothing can be undone then): 1.")
    void p34GoesBack() {
        MindDuty duty = rich();
        due("what can be undone ahead", duty.told(15), 3);
        due("goBack(0)", duty.goBack(0), 1);
        due("what can be undone", duty.told(15), 0);
        due("undo()", duty.undo(), NOT);
        due("THE SEED", duty.seed(6), 1234);
        due("REGISTERED", duty.told(7), 7);
        due("GONE", duty.told(9), 1);
        due("PAID", duty.told(11), 50);
        due("MINUTES", duty.told(12), 0);
        due("ASKED is as it was", duty.told(13), 2);
        due("THE BOOK is as it was", duty.told(14), 3);
        due("THE TEXT is as it was", duty.told(6), 14);
        due("the FAULT is as it was", duty.fault(), 5);
        due("goBack(1)", duty.goBack(1), 1);
        due("GONE", duty.told(9), 0);
        due("his IDEAS", duty.traveller(0, 0), 9);
        due("THE SEED", duty.seed(6), 77);
        due("goBack(1) once more", duty.goBack(1), 1);
        due("THE SEED once more", duty.seed(6), 77);
        duty.pass(3);
        due("what is done then does not change it", duty.goBack(1), 1);
        due("GONE", duty.told(9), 0);
        MindDuty before = none();
        before.seed(3);
        before.keep(1);
        before.seed(4);
        due("without a PASS", before.goBack(1), 1);
        due("THE SEED without a PASS", before.seed(0), 3);
    }

    @Says("Promise 34: UNKNOWN, NOT: it was not kept.")
    void p34UnknownNot() {
        refused("goBack(-1)", Sentences::rich, x -> x.goBack(-1), UNKNOWN);
        refused("goBack(2)", Sentences::rich, x -> x.goBack(2), UNKNOWN);
        refused("goBack(MIN)", Sentences::rich, x -> x.goBack(LEAST), UNKNOWN);
        refused("goBack(MAX)", Sentences::rich, x -> x.goBack(MOST), UNKNOWN);
        refused("goBack(0)", Sentences::some, x -> x.goBack(0), NOT);
        refused("goBack(1)", Sentences::some, x -> x.goBack(1), NOT);
        refused("goBack(1), 0 was kept", () -> done(0), x -> x.goBack(1), NOT);
        refused("goBack(0), 1 was kept", () -> done(1), x -> x.goBack(0), NOT);
        refused("goBack(0) of an earlier PASS", EdgePromisesTest::usedAndReadAgain, x -> x.goBack(0), NOT);
        refused("new: goBack(0)", Sentences::none, x -> x.goBack(0), NOT);
        refused("new: goBack(2)", Sentences::none, x -> x.goBack(2), UNKNOWN);
    }

    /** With something that could be undone, and one IMAGE kept. */
    private static MindDuty done(int image) {
        MindDuty duty = some();
        duty.keep(image);
        duty.register(0, true);
        return duty;
    }
}
