import java.lang.reflect.InvocationTargetException;
import java.lang.reflect.Method;
import java.util.ArrayList;
import java.util.Arrays;
import java.util.List;
import java.util.Map;
import java.util.Random;
import java.util.TreeMap;
import java.util.function.Supplier;

/**
 * Any call, with any arguments, in any state: none throws, all end, and each answers within what its promise can come to
 * or with a refusal that it names. Objects are used far beyond their 512 calls here: nothing may throw then, either.
 */
public final class AnyCallTest {
    private static final int MOST_SECONDS = 300;
    private static final int DRAWN_STATES = 150;
    private static final int MOST_SIZE = 8 * 99;
    private static final int UNKNOWN = Checks.UNKNOWN;
    private static final int OUTSIDE = Checks.OUTSIDE;
    private static final int NOT = Checks.NOT;
    private static final int FULL = Checks.FULL;
    /** As many of everything as a text may tell, each as large as may be. */
    private static final String MOST = "g999 99;" + "i99;".repeat(8) + "j0 1 2;j2 3 4;j4 4 5;j5 6 7;j7 7 0;" + "j1 2 3;".repeat(5)
            + "d0 1 99;d1 2 99;d2 3 99;d3 4 99;d4 5 99;d5 6 99;d6 7 99;" + "d7 0 99;".repeat(3) + "r0;r1;r2;r3;r4;r5;r6;r7;" + "t255;".repeat(5);

    private record Answers(int least, int most, int... refusals) {
        boolean have(int answer) {
            return answer >= least && answer <= most || Arrays.stream(refusals).anyMatch(refusal -> refusal == answer);
        }
    }

    private final Checks checks = new Checks();
    private final Map<String, Answers> answers = new TreeMap<>();
    private final int[] few = {Integer.MIN_VALUE, -1, 0, 1, 2, 4, 5, 7, 8, 31, 32, 33, Integer.MAX_VALUE};

    private AnyCallTest() {
        ofThePass();
        ofWhatIsDone();
        ofWhatIsTried();
        ofTheRest();
    }

    public static void main(String[] args) {
        endInTime();
        AnyCallTest test = new AnyCallTest();
        checkOwnText(test.checks);
        List<Supplier<MindDuty>> states = test.states();
        for (int state = 0; state < states.size(); state++) {
            for (Method method : MindDuty.class.getDeclaredMethods()) {
                if (test.answers.containsKey(method.getName())) {
                    test.checks.about("state " + state + ": ");
                    test.everyWay(method, states.get(state).get());
                }
            }
        }
        test.checks.end();
    }

    /** A call that does not end would keep this test from failing. */
    private static void endInTime() {
        Thread watch = new Thread(() -> {
            try {
                Thread.sleep(MOST_SECONDS * 1000L);
            } catch (InterruptedException e) {
                return;
            }
            System.out.println("not every call ends within " + MOST_SECONDS + " seconds");
            Runtime.getRuntime().halt(1);
        });
        watch.setDaemon(true);
        watch.start();
    }

    private static void checkOwnText(Checks checks) {
        MindDuty duty = Checks.made(MOST);
        int[] want = {999, 99, 8, 10, 10, 5};
        for (int what = 0; what < want.length; what++) {
            checks.due("told(" + what + ") of the fullest text", duty.told(what), want[what]);
        }
    }

    private void ofThePass() {
        answers.put("feed", new Answers(1, 240, OUTSIDE, FULL));
        answers.put("thePass", new Answers(0, 8, -11, -12, -13, -14));
        answers.put("fault", new Answers(Checks.NONE, 240));
        answers.put("told", new Answers(0, 999999, OUTSIDE));
        answers.put("size", new Answers(1, 99, UNKNOWN));
        answers.put("traveller", new Answers(0, MOST_SIZE, UNKNOWN, OUTSIDE));
    }

    private void ofWhatIsDone() {
        answers.put("pass", new Answers(0, MOST_SIZE, UNKNOWN, NOT));
        answers.put("goRound", new Answers(0, 1, UNKNOWN, NOT));
        answers.put("talk", new Answers(1, 99, UNKNOWN, NOT));
        answers.put("come", new Answers(0, MOST_SIZE, UNKNOWN, NOT));
        answers.put("register", new Answers(0, 1, UNKNOWN));
        answers.put("drift", new Answers(0, 999999, OUTSIDE, NOT));
        answers.put("undo", new Answers(0, 19, NOT));
    }

    private void ofWhatIsTried() {
        answers.put("follows", new Answers(0, 255, UNKNOWN));
        answers.put("owed", new Answers(0, MOST_SIZE, UNKNOWN));
        answers.put("parts", new Answers(Checks.NONE, MOST_SIZE, UNKNOWN, OUTSIDE));
        answers.put("talkDown", new Answers(Checks.NONE, 7 * 99, UNKNOWN, OUTSIDE));
        answers.put("soonest", new Answers(Checks.NONE, 3 * 99, UNKNOWN, NOT));
        answers.put("smallest", new Answers(0, 255, OUTSIDE));
        answers.put("better", new Answers(0, 1, UNKNOWN, OUTSIDE, NOT));
        answers.put("gains", new Answers(1000 - MOST_SIZE, 1000 + MOST_SIZE, UNKNOWN, NOT));
        answers.put("free", new Answers(0, 255));
        answers.put("share", new Answers(0, 1000, UNKNOWN, NOT));
        answers.put("glacier", new Answers(0, 1000000000, OUTSIDE));
    }

    private void ofTheRest() {
        answers.put("ask", new Answers(1, 6, UNKNOWN, OUTSIDE, FULL));
        answers.put("minds", new Answers(Checks.NONE, 256, OUTSIDE));
        answers.put("askNext", new Answers(Checks.NONE, 7));
        answers.put("write", new Answers(1, 15, UNKNOWN, OUTSIDE, FULL));
        answers.put("tear", new Answers(0, 21));
        answers.put("judge", new Answers(Checks.NONE, 14));
        answers.put("seed", new Answers(0, Integer.MAX_VALUE, OUTSIDE));
        answers.put("keep", new Answers(1, 1, UNKNOWN));
        answers.put("goBack", new Answers(1, 1, UNKNOWN, NOT));
    }

    private List<Supplier<MindDuty>> states() {
        List<Supplier<MindDuty>> states = new ArrayList<>(List.of(Sentences::none, Sentences::bare, Sentences::some, Sentences::eight,
                Sentences::rich, Sentences::full, () -> Checks.made(MOST), () -> Checks.made("g1 99;t0;t0;"), () -> Checks.made("g1 99;i99;i1;")));
        for (int k = 0; k < DRAWN_STATES; k++) {
            int run = k;
            states.add(() -> drawn(new Random(run)));
        }
        return states;
    }

    /** What any 300 calls lead to, after a text that is often good. */
    private MindDuty drawn(Random random) {
        MindDuty duty = new MindDuty();
        String text = ModelTexts.drawn(random);
        Checks.read(duty, random.nextInt(4) == 0 ? ModelTexts.spoil(text, random) : text);
        List<Method> methods = new ArrayList<>();
        for (Method method : MindDuty.class.getDeclaredMethods()) {
            if (answers.containsKey(method.getName()) && (!method.getName().equals("thePass") || random.nextInt(10) == 0)) {
                methods.add(method);
            }
        }
        // the order in which reflection tells them is not the same everywhere
        methods.sort((one, other) -> one.getName().compareTo(other.getName()));
        for (int call = 0; call < 300; call++) {
            Method method = methods.get(random.nextInt(methods.size()));
            Object[] arguments = new Object[method.getParameterCount()];
            for (int k = 0; k < arguments.length; k++) {
                boolean flag = method.getParameterTypes()[k] == boolean.class;
                arguments[k] = flag ? (Object) random.nextBoolean() : (Object) random.nextInt(random.nextBoolean() ? 5 : 60);
            }
            asked(method, duty, arguments);
        }
        return duty;
    }

    private void everyWay(Method method, MindDuty duty) {
        fill(method, duty, new Object[method.getParameterCount()], 0);
    }

    private void fill(Method method, MindDuty duty, Object[] arguments, int k) {
        if (k == arguments.length) {
            asked(method, duty, arguments);
            return;
        }
        if (method.getParameterTypes()[k] == boolean.class) {
            arguments[k] = true;
            fill(method, duty, arguments, k + 1);
            arguments[k] = false;
            fill(method, duty, arguments, k + 1);
            return;
        }
        // three numbers of all of them would be too many ways
        for (int number : arguments.length > 2 ? few : Checks.WILD) {
            arguments[k] = number;
            fill(method, duty, arguments, k + 1);
        }
    }

    private void asked(Method method, MindDuty duty, Object[] arguments) {
        String call = "";
        int answer = 0;
        boolean good;
        try {
            answer = (int) method.invoke(duty, arguments);
            good = answers.get(method.getName()).have(answer);
        } catch (InvocationTargetException e) {
            good = false;
            call = " throws " + e.getCause();
        } catch (IllegalAccessException e) {
            throw new IllegalStateException(e);
        }
        // the text of a call is made for what is wrong alone: there are millions of them
        checks.holds(good ? "" : method.getName() + Arrays.toString(arguments) + call + ", which is " + answer + ", is within its promise", good);
    }
}
