import java.util.ArrayList;
import java.util.List;
import java.util.function.Consumer;
import java.util.function.Supplier;

/**
 * All that can be seen of an object. Each look is at an object of its own, made alike: some looks change it, and the
 * document tells nothing of calls behind the 512th.
 */
final class Seen {
    private final StringBuilder row = new StringBuilder();
    private final MindDuty duty;

    private Seen(MindDuty duty) {
        this.duty = duty;
    }

    static List<String> of(Supplier<MindDuty> making) {
        List<Consumer<Seen>> looks = List.of(Seen::told, Seen::sets, Seen::ways, Seen::tried, Seen::undone, Seen::images, Seen::text,
                Seen::book, Seen::questions, Seen::drawn);
        List<String> rows = new ArrayList<>();
        for (Consumer<Seen> look : looks) {
            Seen seen = new Seen(making.get());
            look.accept(seen);
            rows.add(seen.row.toString());
        }
        return rows;
    }

    private void put(String name, int... answers) {
        row.append(name);
        for (int answer : answers) {
            row.append(' ').append(answer);
        }
        row.append("; ");
    }

    private void told() {
        for (int what = 0; what <= 15; what++) {
            put("told" + what, duty.told(what));
        }
        put("fault", duty.fault());
        for (int i = 0; i <= 8; i++) {
            put("size" + i, duty.size(i));
        }
        for (int t = 0; t <= 5; t++) {
            put("traveller" + t, duty.traveller(t, 0), duty.traveller(t, 1), duty.traveller(t, 2), duty.traveller(t, 3));
        }
        put("seed", duty.seed(0));
    }

    private void sets() {
        for (int set = 0; set < 256; set += set < 40 ? 1 : 23) {
            put("set" + set, duty.follows(set), duty.owed(set));
        }
    }

    private void ways() {
        for (int a = 0; a < 5; a++) {
            put("parts" + a, duty.parts(a, 0), duty.parts(a, 1));
            for (int b = 0; b < 5; b++) {
                put("talkDown" + a + b, duty.talkDown(a, b, 0), duty.talkDown(a, b, 1));
            }
        }
    }

    private void tried() {
        for (int t = 0; t < 5; t++) {
            put("of" + t, duty.soonest(t), duty.better(t, 0), duty.better(t, 100), duty.better(t, 9999), duty.gains(t, 0), duty.gains(t, 3),
                    duty.share(t));
        }
        put("smallest", duty.smallest(0), duty.smallest(1));
        put("free", duty.free());
        put("glacier", duty.glacier(1), duty.glacier(60));
        put("askNext", duty.askNext());
        put("minds", duty.minds(0), duty.minds(1), duty.minds(2));
        put("judge", duty.judge());
    }

    private void post() {
        put("post", duty.told(7), duty.told(9), duty.told(11), duty.told(12), duty.told(15));
        put("minds", duty.traveller(0, 0), duty.traveller(1, 0), duty.traveller(2, 0), duty.traveller(4, 0));
    }

    private void undone() {
        for (int k = 0; k < 21; k++) {
            put("undo", duty.undo(), duty.told(7), duty.told(9), duty.told(11), duty.told(12), duty.traveller(0, 0), duty.traveller(1, 0));
        }
    }

    private void images() {
        for (int i = 0; i < 2; i++) {
            put("goBack" + i, duty.goBack(i));
            post();
            put("asked", duty.told(13), duty.told(14));
            int seed = duty.seed(0);
            put("seed", seed);
            duty.seed(seed);
        }
    }

    private void text() {
        put("thePass", duty.thePass());
        put("fault", duty.fault());
        told();
    }

    /** Every register in turn, each one idea away from the one ahead: what is written shows by what is wrong then. */
    private void book() {
        for (int i = 0; i < 5; i++) {
            duty.register(i, false);
        }
        for (int k = 1; k <= 32; k++) {
            put("judge", duty.judge());
            int i = Integer.numberOfTrailingZeros(k);
            put("register", duty.register(i, (k >> i + 1 & 1) == 0));
        }
    }

    /** What was asked shows by what is left when one more is asked. */
    private void questions() {
        for (int set = 1; set < 32; set *= 2) {
            put("ask", duty.ask(set, 0, set % 3 == 1));
            put("minds", duty.minds(0), duty.minds(1), duty.minds(2), duty.askNext());
        }
        put("write", duty.write(0, 1));
        put("tear", duty.tear());
    }

    private void drawn() {
        put("drift", duty.drift(1), duty.drift(60));
        post();
        put("seed", duty.seed(0));
    }
}
