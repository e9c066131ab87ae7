import java.io.IOException;
import java.nio.file.Files;
import java.nio.file.Path;
import java.util.List;
import java.util.regex.Matcher;
import java.util.regex.Pattern;

/** The rules of LANGUAGE.md that can be seen from the text of the class, and the room that its objects take. */
public final class LanguageTest {
    private static final List<String> FORBIDDEN = List.of("throw", "throws", "try", "catch", "finally", "synchronized", "assert", "import", "package",
            "instanceof", "volatile", "native", "System\\.(?!arraycopy)\\w*", "Math\\.\\w*Exact", "Thread", "Object", "double", "float", "protected");
    private final Checks checks = new Checks();

    public static void main(String[] args) throws IOException {
        LanguageTest test = new LanguageTest();
        Path root = Path.of(System.getProperty("project", "."));
        String source = Files.readString(root.resolve("src/main/java/MindDuty.java"));
        test.letters(source);
        String code = source.replaceAll("(?s)/\\*.*?\\*/", "").replaceAll("//[^\n]*", "");
        test.words(code);
        test.lengths(source);
        test.room();
        test.checks.end();
    }

    private void letters(String source) {
        checks.holds("signs 1 to 127 alone", source.chars().allMatch(c -> c > 0 && c < 128));
    }

    private void words(String code) {
        for (String word : FORBIDDEN) {
            Matcher matcher = Pattern.compile("(?<![\\w])" + word + "(?![\\w])").matcher(code);
            checks.holds("no '" + word + "'", !matcher.find());
        }
        checks.holds("no lambda, no method reference", !code.contains("->") && !code.contains("::"));
        checks.holds("nothing is made in a method but in constructors and fields", made(code));
        checks.due("every loop but two is counted by 'for'", code.split("\\bwhile\\b").length - 1, 2);
        checks.due("no 'do'", code.split("\\bdo\\b").length - 1, 0);
    }

    /** new stands in the lines of fields, and in the two loops that fill rows of objects in constructors. */
    private static boolean made(String code) {
        int elsewhere = 0;
        for (String line : code.split("\n")) {
            boolean field = line.matches("\\s*(private )?(final )?[\\w\\[\\]]+ \\w+ = new .*");
            elsewhere += line.contains("new ") && !field ? 1 : 0;
        }
        return elsewhere == 2;
    }

    private void lengths(String source) {
        int from = 0;
        String[] lines = source.split("\n");
        for (int k = 0; k < lines.length; k++) {
            if (lines[k].matches("( {4}| {8})(public|private|void|int|boolean|Country|Past|Images)\\b.*\\) \\{")) {
                from = k;
            }
            if (lines[k].matches("( {4}| {8})\\}")) {
                checks.holds("sixty lines at most from line " + (from + 1), k - from < 60 || lines[k].startsWith("    }"));
            }
        }
    }

    /** The room of a run holds 7.3 million fields and elements: an object takes few of them, a call none. */
    private void room() {
        com.sun.management.ThreadMXBean room = (com.sun.management.ThreadMXBean) java.lang.management.ManagementFactory.getThreadMXBean();
        long self = Thread.currentThread().getId();
        MindDuty[] made = new MindDuty[200];
        made[0] = new MindDuty();
        long start = room.getThreadAllocatedBytes(self);
        for (int k = 0; k < made.length; k++) {
            made[k] = new MindDuty();
        }
        long each = (room.getThreadAllocatedBytes(self) - start) / made.length;
        checks.holds("an object takes " + each + " bytes", each < 9000);
        String text = "g50 20;i30;i20;i9;i40;i5;j0 1 3;j2 2 4;j3 4 0;d3 0 4;d0 1 5;d0 2 7;d1 2 3;r2;t3;t9;t20;t0;";
        int answers = allCalls(made[0], text);
        start = room.getThreadAllocatedBytes(self);
        for (MindDuty duty : made) {
            answers ^= allCalls(duty, text);
        }
        long calls = room.getThreadAllocatedBytes(self) - start;
        checks.holds("200 times every call take " + calls + " bytes (" + answers + ")", calls < 10000);
    }

    private static int allCalls(MindDuty duty, String text) {
        int x = 0;
        for (int k = 0; k < text.length(); k++) {
            x ^= duty.feed(text.charAt(k));
        }
        x ^= duty.thePass() ^ duty.fault() ^ duty.told(10) ^ duty.size(1) ^ duty.traveller(0, 2);
        x ^= duty.talk(1, 3, 0) ^ duty.pass(0) ^ duty.goRound(1, true) ^ duty.come(0, 5) ^ duty.register(3, true) ^ duty.drift(60) ^ duty.undo();
        x ^= duty.follows(7) ^ duty.owed(31) ^ duty.parts(3, 1) ^ duty.talkDown(3, 2, 1) ^ duty.soonest(2) ^ duty.smallest(0) ^ duty.smallest(1);
        x ^= duty.better(2, 99) ^ duty.gains(2, 3) ^ duty.free() ^ duty.share(2) ^ duty.glacier(60);
        x ^= duty.ask(7, 3, true) ^ duty.minds(2) ^ duty.askNext() ^ duty.write(1, 1) ^ duty.judge() ^ duty.tear();
        return x ^ duty.seed(5) ^ duty.keep(0) ^ duty.goBack(0);
    }
}
