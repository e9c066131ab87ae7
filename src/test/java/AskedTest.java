/** Promises 26 to 34: what is asked, the book, draws and images. */
public final class AskedTest {
    private static final String TEXT = "g50 20;i30;i20;i9;i40;i5;j0 1 3;j2 2 4;j3 4 0;d0 1 5;r2;t3;t9;t20;t0;";
    private final Checks checks = new Checks();

    public static void main(String[] args) {
        AskedTest test = new AskedTest();
        test.asking();
        test.kindsOfQuestions();
        test.fitting();
        test.askingNext();
        test.writing();
        test.tearing();
        test.judging();
        test.seeds();
        test.images();
        test.imagesKeepAll();
        test.wrongNumbers();
        test.checks.end();
    }

    private void asking() {
        MindDuty duty = Checks.made(TEXT);
        for (int k = 1; k <= 6; k++) {
            checks.due("ask " + k, duty.ask(31, 0, true), k);
        }
        checks.due("ask a seventh", duty.ask(31, 0, true), Checks.FULL);
        checks.due("ask a seventh of how 11", duty.ask(31, 11, true), Checks.OUTSIDE);
        checks.due("ask a seventh of how 11 and unknown bits", duty.ask(32, 11, true), Checks.UNKNOWN);
        checks.due("told(13)", duty.told(13), 6);
        checks.due("what is ASKED cannot be undone", duty.undo(), Checks.NOT);
    }

    private int mindsBy(int set, int how, boolean yes) {
        MindDuty duty = Checks.made(TEXT);
        duty.ask(set, how, yes);
        return duty.minds(0);
    }

    private void kindsOfQuestions() {
        checks.due("any of 7", mindsBy(7, 0, true), 28);
        checks.due("not any of 7", mindsBy(7, 0, false), 4);
        checks.due("all of 7", mindsBy(7, 1, true), 4);
        checks.due("not all of 7", mindsBy(7, 1, false), 28);
        checks.due("any of nothing", mindsBy(0, 0, true), 0);
        checks.due("not any of nothing", mindsBy(0, 0, false), 32);
        checks.due("all of nothing", mindsBy(0, 1, true), 32);
        checks.due("not all of nothing", mindsBy(0, 1, false), 0);
        int[] ways = {1, 5, 10, 10, 5, 1, 0, 0, 0};
        for (int how = 2; how <= 10; how++) {
            checks.due("just " + (how - 2) + " of 31", mindsBy(31, how, true), ways[how - 2]);
            checks.due("not just " + (how - 2) + " of 31", mindsBy(31, how, false), 32 - ways[how - 2]);
        }
        MindDuty eight = Checks.made("g1 0;i1;i1;i1;i1;i1;i1;i1;i1;");
        checks.due("all minds of eight", eight.minds(0), 256);
        eight.ask(255, 10, true);
        checks.due("just 8 of 255", eight.minds(0), 1);
        checks.due("it is all", eight.minds(1), 255);
        checks.due("sure of all", eight.minds(2), 255);
    }

    private void fitting() {
        MindDuty duty = Checks.made(TEXT);
        checks.due("minds(1) of nothing asked", duty.minds(1), 0);
        checks.due("minds(2) of nothing asked", duty.minds(2), 0);
        duty.ask(6, 3, true);
        checks.due("minds(0)", duty.minds(0), 16);
        checks.due("minds(1)", duty.minds(1), 2);
        checks.due("minds(2)", duty.minds(2), 0);
        duty.ask(2, 0, false);
        duty.ask(8, 1, true);
        checks.due("minds(0) of three questions", duty.minds(0), 4);
        checks.due("minds(1) of three questions", duty.minds(1), 12);
        checks.due("minds(2) of three questions", duty.minds(2), 12);
        duty.ask(12, 2, true);
        checks.due("minds(0) of none", duty.minds(0), 0);
        checks.due("minds(1) of none", duty.minds(1), Checks.NONE);
        checks.due("minds(2) of none", duty.minds(2), 0);
    }

    private void askingNext() {
        MindDuty duty = Checks.made(TEXT);
        checks.due("askNext() of like ones the least", duty.askNext(), 0);
        duty.ask(7, 0, true);
        checks.due("askNext() where 3 parts best", duty.askNext(), 3);
        duty.ask(8, 0, true);
        checks.due("askNext() where 4 parts best", duty.askNext(), 4);
        duty.ask(16, 0, false);
        checks.due("askNext() of like ones again", duty.askNext(), 0);
        duty.ask(7, 5, true);
        checks.due("askNext() of one mind", duty.askNext(), Checks.NONE);
        duty.ask(7, 2, true);
        checks.due("askNext() of no mind", duty.askNext(), Checks.NONE);
        checks.due("askNext() without IDEAS", new MindDuty().askNext(), Checks.NONE);
        MindDuty uneven = Checks.made("g1 0;i1;i1;i1;");
        uneven.ask(3, 1, false);
        uneven.ask(1, 0, false);
        checks.due("askNext() passes over what is known", uneven.askNext(), 1);
        MindDuty rare = Checks.made("g1 0;i1;i1;i1;i1;");
        rare.ask(15, 3, true);
        checks.due("one of four: each parts alike", rare.askNext(), 0);
    }

    private void writing() {
        MindDuty duty = Checks.made(TEXT);
        for (int k = 1; k <= 15; k++) {
            checks.due("write " + k, duty.write(k % 5, k % 2), k);
        }
        checks.due("write a sixteenth", duty.write(0, 0), Checks.FULL);
        checks.due("write a sixteenth of 2", duty.write(0, 2), Checks.OUTSIDE);
        checks.due("write a sixteenth of 2 of an unknown IDEA", duty.write(5, 2), Checks.UNKNOWN);
        checks.due("told(14)", duty.told(14), 15);
        checks.due("THE BOOK cannot be undone", duty.undo(), Checks.NOT);
    }

    private void tearing() {
        MindDuty duty = Checks.made(TEXT);
        checks.due("tear() of nothing", duty.tear(), 0);
        duty.ask(1, 0, true);
        duty.ask(1, 0, false);
        duty.write(0, 1);
        duty.register(0, true);
        checks.due("tear()", duty.tear(), 3);
        checks.due("told(13)", duty.told(13), 0);
        checks.due("told(14)", duty.told(14), 0);
        checks.due("minds(0)", duty.minds(0), 32);
        checks.due("judge()", duty.judge(), Checks.NONE);
        checks.due("all else stays", duty.told(7), 5);
        checks.due("what can be undone stays", duty.undo(), 0);
    }

    private void judging() {
        MindDuty duty = Checks.made(TEXT);
        checks.due("judge() of nothing", duty.judge(), Checks.NONE);
        duty.write(2, 1);
        duty.write(4, 1);
        duty.write(0, 0);
        checks.due("judge()", duty.judge(), Checks.NONE);
        duty.register(0, true);
        checks.due("judge() behind register", duty.judge(), 2);
        duty.register(2, false);
        checks.due("judge(): the first", duty.judge(), 0);
        duty.undo();
        duty.undo();
        checks.due("judge() behind undo", duty.judge(), Checks.NONE);
        duty.write(0, 1);
        checks.due("judge(): two that gainsay", duty.judge(), 3);
    }

    private void seeds() {
        MindDuty duty = Checks.made(TEXT);
        checks.due("seed(2147483647)", duty.seed(2147483647), 0);
        checks.due("seed(-1)", duty.seed(-1), Checks.OUTSIDE);
        checks.due("seed(MIN)", duty.seed(Integer.MIN_VALUE), Checks.OUTSIDE);
        checks.due("seed(0)", duty.seed(0), 2147483647);
        checks.due("seed(8)", duty.seed(8), 0);
        checks.due("THE SEED cannot be undone", duty.undo(), Checks.NOT);
        duty.drift(6);
        MindDuty again = Checks.made(TEXT);
        again.seed(8);
        again.drift(3);
        again.drift(3);
        checks.due("the same draws, in parts", again.seed(0), duty.seed(0));
        checks.due("the same register", again.told(7), duty.told(7));
    }

    private void images() {
        MindDuty duty = Checks.made(TEXT);
        checks.due("goBack(0) not kept", duty.goBack(0), Checks.NOT);
        checks.due("goBack(1) not kept", duty.goBack(1), Checks.NOT);
        duty.register(0, true);
        checks.due("keep(2) is refused", duty.keep(2), Checks.UNKNOWN);
        checks.due("goBack(1) is refused", duty.goBack(1), Checks.NOT);
        checks.due("what can be undone stays", duty.told(15), 1);
        checks.due("keep(0)", duty.keep(0), 1);
        checks.due("nothing can be undone", duty.undo(), Checks.NOT);
        duty.register(1, true);
        checks.due("keep(1)", duty.keep(1), 1);
        duty.register(2, false);
        checks.due("goBack(0)", duty.goBack(0), 1);
        checks.due("nothing can be undone behind goBack", duty.undo(), Checks.NOT);
        checks.due("REGISTERED of IMAGE 0", duty.told(7), 5);
        checks.due("goBack(1)", duty.goBack(1), 1);
        checks.due("REGISTERED of IMAGE 1", duty.told(7), 7);
        duty.register(3, true);
        duty.keep(0);
        duty.register(3, false);
        duty.goBack(0);
        checks.due("REGISTERED of IMAGE 0, kept anew", duty.told(7), 15);
        duty.register(3, false);
        duty.goBack(0);
        checks.due("an IMAGE is there for more than once", duty.told(7), 15);
    }

    private void imagesKeepAll() {
        MindDuty duty = Checks.made(TEXT);
        duty.talk(0, 0, 1);
        duty.pass(0);
        duty.seed(1234);
        duty.ask(1, 0, true);
        duty.keep(1);
        duty.ask(1, 0, true);
        duty.write(1, 1);
        duty.come(0, 31);
        duty.talk(0, 0, 1);
        duty.drift(20);
        duty.goBack(1);
        checks.due("his IDEAS", duty.traveller(0, 0), 2);
        checks.due("REGISTERED", duty.told(7), 6);
        checks.due("GONE", duty.told(9), 1);
        checks.due("PAID", duty.told(11), 20);
        checks.due("MINUTES", duty.told(12), 5);
        checks.due("THE SEED", duty.seed(0), 1234);
        checks.due("what is ASKED is no part of it", duty.told(13), 2);
        checks.due("THE BOOK is no part of it", duty.told(14), 1);
    }

    private void wrongNumbers() {
        MindDuty duty = Checks.made(TEXT);
        for (int wild : Checks.WILD) {
            if (wild < 0 || wild > 31) {
                checks.due("ask(" + wild + ", 99)", duty.ask(wild, 99, true), Checks.UNKNOWN);
            }
            if (wild < 0 || wild > 10) {
                checks.due("ask(31, " + wild + ")", duty.ask(31, wild, true), Checks.OUTSIDE);
            }
            if (wild < 0 || wild > 2) {
                checks.due("minds(" + wild + ")", duty.minds(wild), Checks.OUTSIDE);
            }
            if (wild < 0 || wild > 4) {
                checks.due("write(" + wild + ", 2)", duty.write(wild, 2), Checks.UNKNOWN);
            }
            if (wild < 0 || wild > 1) {
                checks.due("write(0, " + wild + ")", duty.write(0, wild), Checks.OUTSIDE);
                checks.due("keep(" + wild + ")", duty.keep(wild), Checks.UNKNOWN);
                checks.due("goBack(" + wild + ")", duty.goBack(wild), Checks.UNKNOWN);
            }
            if (wild < 0) {
                checks.due("seed(" + wild + ")", duty.seed(wild), Checks.OUTSIDE);
            }
        }
        checks.due("nothing ASKED by refusals", duty.tear(), 0);
    }
}
