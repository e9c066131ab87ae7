import java.util.Locale;

/** Counts the answers that are not as due, prints them, and ends the test with exit code 1 if there was one. */
final class Checks {
    static final int NONE = -1;
    static final int UNKNOWN = -1000000001;
    static final int OUTSIDE = -1000000002;
    static final int NOT = -1000000003;
    static final int FULL = -1000000004;

    /** Numbers that lie on and beyond the edges of everything the document bounds. */
    static final int[] WILD = {Integer.MIN_VALUE, Integer.MIN_VALUE + 1, -1000000001, -257, -256, -33, -32, -2, -1, 0, 1, 2, 3, 4, 5, 6, 7, 8,
        9, 10, 11, 14, 15, 16, 20, 31, 32, 33, 59, 60, 61, 63, 64, 99, 100, 127, 128, 239, 240, 255, 256, 257, 511, 512, 1023, 9998, 9999, 10000,
        65536, 999999, 1000000000, Integer.MAX_VALUE - 1, Integer.MAX_VALUE};

    private int asked;
    private int wrong;
    private String about = "";

    /** What the checks from here on are of, told ahead of each that is wrong. */
    void about(String what) {
        about = what;
    }

    int asked() {
        return asked;
    }

    void due(String call, long got, long want) {
        asked++;
        if (got != want) {
            wrong++;
            if (wrong <= 50) {
                System.out.println(String.format(Locale.ROOT, "%s%s answered %d, due is %d", about, call, got, want));
            }
        }
    }

    void holds(String what, boolean so) {
        due(what, so ? 1 : 0, 1);
    }

    boolean isGood() {
        return wrong == 0;
    }

    void end() {
        System.out.println(asked + " checks, " + wrong + " wrong");
        if (wrong != 0 || asked == 0) {
            System.exit(1);
        }
    }

    static void feed(MindDuty duty, String text) {
        for (int k = 0; k < text.length(); k++) {
            duty.feed(text.charAt(k));
        }
    }

    static int read(MindDuty duty, String text) {
        feed(duty, text);
        return duty.thePass();
    }

    static MindDuty made(String text) {
        MindDuty duty = new MindDuty();
        if (read(duty, text) < 0) {
            throw new IllegalStateException("the test's own text has a fault: " + text);
        }
        return duty;
    }
}
