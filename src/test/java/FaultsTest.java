import java.util.Random;

/** Many texts with letters wrong, each answered by the class as by the model: the first fault, the least of its letter. */
public final class FaultsTest {
    public static void main(String[] args) {
        Checks checks = new Checks();
        Random random = new Random(7);
        int[] kinds = new int[5];
        for (int k = 0; k < 60000; k++) {
            String text = ModelTexts.spoil(ModelTexts.drawn(random), random);
            MindDuty duty = new MindDuty();
            Model model = new Model();
            for (int at = 0; at < text.length(); at++) {
                duty.feed(text.charAt(at));
                model.feed(text.charAt(at));
            }
            int want = model.thePass();
            checks.due("[" + text + "]", duty.thePass(), want);
            checks.due("fault() of [" + text + "]", duty.fault(), model.fault());
            kinds[want >= 0 ? 0 : -10 - want]++;
        }
        for (int kind = 0; kind < 5; kind++) {
            checks.holds("texts of kind " + kind + " were among them", kinds[kind] > 500);
        }
        checks.end();
    }
}
