import java.util.Random;

/** Runs of drawn calls, good ones and wild ones, each answered by the class as by the model. */
public final class ModelTest {
    private static final int RUNS = 1500;
    private static final int CALLS = 400;
    private final Checks checks = new Checks();
    private final Random random;
    private final int run;
    private final MindDuty duty = new MindDuty();
    private final Model model = new Model();
    private int ideas;
    private int travellers;

    private ModelTest(int run) {
        this.run = run;
        random = new Random(run);
    }

    public static void main(String[] args) {
        Checks all = new Checks();
        for (int run = 0; run < RUNS; run++) {
            ModelTest test = new ModelTest(run);
            for (int call = 0; call < CALLS && test.checks.isGood(); call++) {
                test.step(call);
            }
            all.holds("run " + run, test.checks.isGood());
        }
        all.end();
    }

    private void due(String call, int got, int want) {
        checks.due("run " + run + ": " + call, got, want);
    }

    private void step(int call) {
        if (call == 0 || random.nextInt(150) == 0) {
            text(random.nextInt(6) == 0);
        } else if (random.nextInt(3) > 0) {
            done();
        } else {
            tried();
        }
        if (random.nextInt(8) == 0) {
            for (int what = 0; what <= 15; what++) {
                due("told(" + what + ")", duty.told(what), model.told(what));
            }
        }
    }

    private void text(boolean spoilt) {
        String text = ModelTexts.drawn(random);
        if (spoilt) {
            text = ModelTexts.spoil(text, random);
        }
        for (int k = 0; k < text.length(); k++) {
            due("feed", duty.feed(text.charAt(k)), model.feed(text.charAt(k)));
        }
        due("thePass() of [" + text + "]", duty.thePass(), model.thePass());
        due("fault() of [" + text + "]", duty.fault(), model.fault());
        ideas = model.told(2);
        travellers = model.told(5);
    }

    private int number(int bound) {
        if (random.nextInt(25) == 0) {
            return Checks.WILD[random.nextInt(Checks.WILD.length)];
        }
        return random.nextInt(Math.max(1, bound));
    }

    private void done() {
        int t = number(travellers);
        int a = number(ideas);
        int b = number(ideas);
        int set = number(1 << ideas);
        boolean is = random.nextBoolean();
        switch (random.nextInt(16)) {
            case 0, 1 -> due("pass(" + t + ")", duty.pass(t), model.pass(t));
            case 2 -> due("goRound(" + t + ", " + is + ")", duty.goRound(t, is), model.goRound(t, is));
            case 3, 4 -> due("talk(" + t + ", " + a + ", " + b + ")", duty.talk(t, a, b), model.talk(t, a, b));
            case 5, 6, 7 -> due("come(" + t + ", " + set + ")", duty.come(t, set), model.come(t, set));
            case 8, 9 -> due("register(" + a + ", " + is + ")", duty.register(a, is), model.register(a, is));
            case 10 -> {
                int n = number(61);
                due("drift(" + n + ")", duty.drift(n), model.drift(n));
            }
            case 11 -> due("undo()", duty.undo(), model.undo());
            case 12 -> asked(set, a);
            case 13 -> {
                int v = random.nextInt();
                due("seed(" + v + ")", duty.seed(v), model.seed(v));
            }
            default -> imaged(number(2));
        }
    }

    /** Seldom, since nothing can be undone behind these. */
    private void imaged(int i) {
        switch (random.nextInt(6)) {
            case 0 -> due("keep(" + i + ")", duty.keep(i), model.keep(i));
            case 1 -> due("goBack(" + i + ")", duty.goBack(i), model.goBack(i));
            default -> due("undo()", duty.undo(), model.undo());
        }
    }

    private void asked(int set, int i) {
        boolean yes = random.nextInt(3) > 0;
        int how = number(random.nextBoolean() ? 11 : 4);
        int is = number(2);
        switch (random.nextInt(9)) {
            case 0, 1, 2, 3 -> due("ask(" + set + ", " + how + ", " + yes + ")", duty.ask(set, how, yes), model.ask(set, how, yes));
            case 4, 5, 6, 7 -> due("write(" + i + ", " + is + ")", duty.write(i, is), model.write(i, is));
            default -> due("tear()", duty.tear(), model.tear());
        }
    }

    private void tried() {
        int t = number(travellers);
        int a = number(ideas);
        int b = number(ideas);
        int set = number(1 << ideas);
        int what = number(2);
        int v = number(random.nextBoolean() ? 300 : 10000);
        switch (random.nextInt(17)) {
            case 0 -> due("size(" + a + ")", duty.size(a), model.size(a));
            case 1 -> due("follows(" + set + ")", duty.follows(set), model.follows(set));
            case 2 -> due("owed(" + set + ")", duty.owed(set), model.owed(set));
            case 3, 4 -> due("parts(" + a + ", " + what + ")", duty.parts(a, what), model.parts(a, what));
            case 5, 6 -> due("talkDown(" + a + ", " + b + ", " + what + ")", duty.talkDown(a, b, what), model.talkDown(a, b, what));
            case 7 -> due("soonest(" + t + ")", duty.soonest(t), model.soonest(t));
            case 8 -> due("smallest(" + what + ")", duty.smallest(what), model.smallest(what));
            case 9 -> due("better(" + t + ", " + v + ")", duty.better(t, v), model.better(t, v));
            case 10 -> due("gains(" + t + ", " + set + ")", duty.gains(t, set), model.gains(t, set));
            case 11 -> due("free()", duty.free(), model.free());
            case 12 -> due("share(" + t + ")", duty.share(t), model.share(t));
            case 13 -> {
                int n = number(61);
                due("glacier(" + n + ")", duty.glacier(n), model.glacier(n));
            }
            case 14 -> {
                int kind = number(3);
                due("minds(" + kind + ")", duty.minds(kind), model.minds(kind));
                due("askNext()", duty.askNext(), model.askNext());
            }
            case 15 -> due("judge()", duty.judge(), model.judge());
            default -> {
                int kind = number(4);
                due("traveller(" + t + ", " + kind + ")", duty.traveller(t, kind), model.traveller(t, kind));
            }
        }
    }
}
