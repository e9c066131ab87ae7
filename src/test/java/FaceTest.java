import java.lang.reflect.Constructor;
import java.lang.reflect.Field;
import java.lang.reflect.Method;
import java.lang.reflect.Modifier;
import java.util.ArrayList;
import java.util.Arrays;
import java.util.List;
import java.util.Set;
import java.util.TreeSet;

/** The document's face and no more, and the rules of LANGUAGE.md that can be seen from the class itself. */
public final class FaceTest {
    private static final Set<String> METHODS = new TreeSet<>(List.of(
            "feed(int)", "thePass()", "fault()", "told(int)", "size(int)", "traveller(int,int)",
            "pass(int)", "goRound(int,boolean)", "talk(int,int,int)", "come(int,int)", "register(int,boolean)", "drift(int)", "undo()",
            "follows(int)", "owed(int)", "parts(int,int)", "talkDown(int,int,int)", "soonest(int)", "smallest(int)", "better(int,int)",
            "gains(int,int)", "free()", "share(int)", "glacier(int)",
            "ask(int,int,boolean)", "minds(int)", "askNext()", "write(int,int)", "tear()", "judge()",
            "seed(int)", "keep(int)", "goBack(int)"));
    private final Checks checks = new Checks();

    public static void main(String[] args) {
        FaceTest test = new FaceTest();
        test.constants();
        test.methods();
        test.nothingElse();
        test.nestedClasses();
        test.checks.end();
    }

    private void constants() {
        checks.due("NONE", MindDuty.NONE, -1);
        checks.due("UNKNOWN", MindDuty.UNKNOWN, -1000000001);
        checks.due("OUTSIDE", MindDuty.OUTSIDE, -1000000002);
        checks.due("NOT", MindDuty.NOT, -1000000003);
        checks.due("FULL", MindDuty.FULL, -1000000004);
        checks.holds("MindDuty is public and final", (MindDuty.class.getModifiers() & (Modifier.PUBLIC | Modifier.FINAL)) == (Modifier.PUBLIC | Modifier.FINAL));
    }

    private void methods() {
        Set<String> found = new TreeSet<>();
        Set<String> names = new TreeSet<>();
        for (Method method : MindDuty.class.getDeclaredMethods()) {
            if (Modifier.isPublic(method.getModifiers())) {
                found.add(method.getName() + Arrays.toString(method.getParameterTypes()).replace(" ", "").replace('[', '(').replace(']', ')'));
                names.add(method.getName());
                checks.holds(method.getName() + " answers an int", method.getReturnType() == int.class);
                checks.holds(method.getName() + " declares no exception", method.getExceptionTypes().length == 0);
            }
        }
        checks.holds("the methods of the document: " + found, found.equals(METHODS));
        for (Class<?> type : all()) {
            for (Method method : type.getDeclaredMethods()) {
                boolean ofTheFace = type == MindDuty.class && Modifier.isPublic(method.getModifiers());
                checks.holds(method + " bears no public one's name", ofTheFace || !names.contains(method.getName()));
                checks.holds(method + " has seven parameters at most", method.getParameterCount() <= 7);
            }
        }
    }

    private void nothingElse() {
        Set<String> open = new TreeSet<>();
        for (Field field : MindDuty.class.getDeclaredFields()) {
            if (!Modifier.isPrivate(field.getModifiers())) {
                open.add(field.getName());
            }
        }
        checks.holds("the constants of the document: " + open, open.equals(new TreeSet<>(List.of("NONE", "UNKNOWN", "OUTSIDE", "NOT", "FULL"))));
        for (Method method : MindDuty.class.getDeclaredMethods()) {
            checks.holds(method + " is public or private", Modifier.isPublic(method.getModifiers()) || Modifier.isPrivate(method.getModifiers()));
        }
        Constructor<?>[] constructors = MindDuty.class.getDeclaredConstructors();
        checks.due("constructors", constructors.length, 1);
        checks.holds("the constructor is public and takes nothing",
                Modifier.isPublic(constructors[0].getModifiers()) && constructors[0].getParameterCount() == 0);
    }

    private void nestedClasses() {
        checks.holds("twelve classes at most", all().size() <= 12);
        for (Class<?> type : all()) {
            int fields = 0;
            for (Field field : type.getDeclaredFields()) {
                boolean isStatic = Modifier.isStatic(field.getModifiers());
                checks.holds(field + " is final if it is static", !isStatic || Modifier.isFinal(field.getModifiers()));
                fields += isStatic ? 0 : 1;
            }
            checks.holds(type + " has twenty fields at most", fields <= 20);
            boolean inside = type != MindDuty.class;
            checks.holds(type + " is static inside", !inside || Modifier.isStatic(type.getModifiers()));
            checks.holds(type + " is not open", !inside || !Modifier.isPublic(type.getModifiers()) && !Modifier.isProtected(type.getModifiers()));
        }
    }

    private static List<Class<?>> all() {
        List<Class<?>> types = new ArrayList<>(List.of(MindDuty.class.getDeclaredClasses()));
        types.add(MindDuty.class);
        return types;
    }
}
