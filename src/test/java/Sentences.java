import java.lang.reflect.InvocationTargetException;
import java.lang.reflect.Method;
import java.lang.reflect.Modifier;
import java.util.ArrayList;
import java.util.Arrays;
import java.util.Comparator;
import java.util.List;
import java.util.function.Supplier;
import java.util.function.ToIntFunction;

/** A test class whose methods each hold one sentence of the document: those with @Says are run, each by itself. */
abstract class Sentences {
    final Checks checks = new Checks();

    /** A text of a bit of everything: who is just not STUCK, who is, who has what is there, who has nothing. */
    static final String SOME = "g50 20;i30;i20;i9;i40;i5;j0 1 3;j2 2 4;j3 4 0;d3 0 4;d0 1 5;d0 2 7;d1 2 3;d2 4 1;r2;t3;t9;t20;t0;";

    static List<Method> testsOf(Class<?> type) {
        List<Method> tests = new ArrayList<>();
        for (Method method : type.getDeclaredMethods()) {
            if (method.isAnnotationPresent(Says.class)) {
                tests.add(method);
            }
        }
        tests.sort(Comparator.comparing(Method::getName));
        return tests;
    }

    final void runAll() {
        for (Method test : testsOf(getClass())) {
            checks.about(test.getName() + " [" + test.getAnnotation(Says.class).value() + "] ");
            int before = checks.asked();
            try {
                test.invoke(this);
            } catch (InvocationTargetException e) {
                e.getCause().printStackTrace(System.out);
                checks.holds("it ends without an exception", false);
            } catch (IllegalAccessException e) {
                throw new IllegalStateException(e);
            }
            checks.holds("it asks for something", checks.asked() > before);
        }
        checks.about("");
        for (Method method : getClass().getDeclaredMethods()) {
            boolean looksLikeOne = !Modifier.isPrivate(method.getModifiers()) && !Modifier.isStatic(method.getModifiers());
            checks.holds(method.getName() + " says which sentence it holds", !looksLikeOne || method.isAnnotationPresent(Says.class));
        }
        checks.end();
    }

    final void due(String call, long got, long want) {
        checks.due(call, got, want);
    }

    final void holds(String what, boolean so) {
        checks.holds(what, so);
    }

    final void same(String what, Supplier<MindDuty> one, Supplier<MindDuty> other) {
        List<String> left = Seen.of(one);
        List<String> right = Seen.of(other);
        for (int k = 0; k < left.size(); k++) {
            if (!left.get(k).equals(right.get(k))) {
                System.out.println(what + ":\n  " + left.get(k) + "\n  " + right.get(k));
            }
            holds(what + ", look " + k, left.get(k).equals(right.get(k)));
        }
    }

    /** The call is refused as told, and all that can be seen of the object is as ahead of it. */
    final void refused(String call, Supplier<MindDuty> making, ToIntFunction<MindDuty> asking, int want) {
        int got = asking.applyAsInt(making.get());
        due(call, got, want);
        if (got != want) {
            // what was not refused may run long: once is enough
            return;
        }
        same(call + " changes nothing", making, () -> {
            MindDuty duty = making.get();
            asking.applyAsInt(duty);
            return duty;
        });
    }

    final void toldIs(MindDuty duty, int... want) {
        int[] got = new int[want.length];
        for (int what = 0; what < want.length; what++) {
            got[what] = duty.told(what);
        }
        for (int what = 0; what < want.length; what++) {
            due("told(" + what + ") of " + Arrays.toString(got), got[what], want[what]);
        }
    }

    static MindDuty none() {
        return new MindDuty();
    }

    /** A PASS without anything. */
    static MindDuty bare() {
        return Checks.made("g5 50;");
    }

    static MindDuty some() {
        return Checks.made(SOME);
    }

    /** The most IDEAS and TRAVELLERS; SIZE k + 1 of IDEA k. */
    static MindDuty eight() {
        return Checks.made("g9 50;i1;i2;i3;i4;i5;i6;i7;i8;d7 0 5;j0 0 1;r3;t1;t2;t4;t8;t129;");
    }

    /** Something of everything: GONE ones, what can be undone, both IMAGES, a FAULT, letters, questions, entries. */
    static MindDuty rich() {
        MindDuty duty = some();
        duty.seed(1234);
        duty.pass(0);
        duty.keep(0);
        duty.come(0, 9);
        duty.seed(77);
        duty.keep(1);
        duty.goRound(2, false);
        duty.talk(1, 3, 0);
        duty.register(1, false);
        duty.ask(7, 0, true);
        duty.ask(6, 3, false);
        duty.write(2, 1);
        duty.write(0, 0);
        duty.write(4, 1);
        Checks.read(duty, "g1 0;x");
        Checks.feed(duty, "g7 3;i5;i6;t3;");
        return duty;
    }

    /** As much of everything as there may be. */
    static MindDuty full() {
        MindDuty duty = Checks.made("g9 50;i4;i3;j0 0 1;d0 1 2;r1;t3;t1;t2;t1;t1;");
        duty.seed(2147483647);
        duty.goRound(1, false);
        duty.keep(0);
        duty.pass(2);
        duty.keep(1);
        for (int k = 0; k < 20; k++) {
            duty.register(k % 2, k % 3 > 0);
        }
        for (int k = 0; k < 6; k++) {
            duty.ask(3, 0, true);
        }
        for (int k = 0; k < 15; k++) {
            duty.write(k % 2, k % 2);
        }
        Checks.feed(duty, " ".repeat(232) + "g8 1;i3;");
        return duty;
    }
}
