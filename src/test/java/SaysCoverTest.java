import java.lang.reflect.Method;
import java.util.List;

/** Every sentence of the document has a test of its own: what tests say they hold is looked up there, and no word is left. */
public final class SaysCoverTest {
    private static final List<Class<? extends Sentences>> TESTS =
            List.of(EdgeTermsTest.class, EdgeTextTest.class, EdgeDutyTest.class, EdgeTriedTest.class, EdgePromisesTest.class);
    /** A rule of reading, which no answer shows. */
    private static final String NOT_TESTED = "Words in capitals are told where they come first.";
    private final Checks checks = new Checks();
    private final Document document = new Document();

    public static void main(String[] args) {
        if (!Document.isHere()) {
            System.out.println("the document is not here: nothing was looked up");
            return;
        }
        SaysCoverTest test = new SaysCoverTest();
        for (String name : test.document.names()) {
            test.look(name);
        }
        test.everyQuoteIsOfAPart();
        test.checks.end();
    }

    private void look(String name) {
        String part = document.part(name);
        boolean[] said = new boolean[part.length()];
        for (Class<?> type : TESTS) {
            for (Method test : Sentences.testsOf(type)) {
                String[] quote = quoteOf(test);
                if (quote[0].equals(name)) {
                    int at = document.find(name, quote[1]);
                    checks.holds("'" + quote[1] + "' stands once in " + name, at >= 0);
                    mark(said, at, quote[1].length());
                }
            }
        }
        mark(said, document.find(name, NOT_TESTED), NOT_TESTED.length());
        StringBuilder left = new StringBuilder();
        for (int k = 0; k < said.length; k++) {
            left.append(said[k] ? ' ' : part.charAt(k));
        }
        checks.holds(name + " has no words that no test holds, but [" + left.toString().trim() + "]", left.toString().matches("[\\s.,;:()]*"));
    }

    private static void mark(boolean[] said, int at, int length) {
        for (int k = at; at >= 0 && k < at + length; k++) {
            said[k] = true;
        }
    }

    private static String[] quoteOf(Method test) {
        String says = test.getAnnotation(Says.class).value();
        int colon = says.indexOf(": ");
        return new String[] {says.substring(0, colon), says.substring(colon + 2)};
    }

    private void everyQuoteIsOfAPart() {
        for (Class<?> type : TESTS) {
            for (Method test : Sentences.testsOf(type)) {
                checks.holds(test.getName() + " quotes a part of the document", !document.part(quoteOf(test)[0]).isEmpty());
            }
        }
    }
}
