import com.sun.management.ThreadMXBean;
import java.lang.management.ManagementFactory;

/** The room of a run holds 7.3 million fields and elements: an object takes few of them, a call none. */
public final class RoomTest {
    private static final String TEXT = "g50 20;i30;i20;i9;i40;i5;j0 1 3;j2 2 4;j3 4 0;d3 0 4;d0 1 5;d0 2 7;d1 2 3;r2;t3;t9;t20;t0;";
    private static final int OBJECTS = 200;

    private RoomTest() {
    }

    public static void main(String[] args) {
        Checks checks = new Checks();
        ThreadMXBean room = (ThreadMXBean) ManagementFactory.getThreadMXBean();
        long self = Thread.currentThread().getId();
        MindDuty[] made = new MindDuty[OBJECTS];
        made[0] = new MindDuty();
        long start = room.getThreadAllocatedBytes(self);
        for (int k = 0; k < made.length; k++) {
            made[k] = new MindDuty();
        }
        long each = (room.getThreadAllocatedBytes(self) - start) / made.length;
        checks.holds("an object takes " + each + " bytes", each < 9000);
        int answers = allCalls(made[0]);
        start = room.getThreadAllocatedBytes(self);
        for (MindDuty duty : made) {
            answers ^= allCalls(duty);
        }
        long calls = room.getThreadAllocatedBytes(self) - start;
        checks.holds(OBJECTS + " times every call take " + calls + " bytes (" + answers + ")", calls < 10000);
        checks.end();
    }

    private static int allCalls(MindDuty duty) {
        int x = 0;
        for (int k = 0; k < TEXT.length(); k++) {
            x ^= duty.feed(TEXT.charAt(k));
        }
        x ^= duty.thePass() ^ duty.fault() ^ duty.told(10) ^ duty.size(1) ^ duty.traveller(0, 2);
        x ^= duty.talk(1, 3, 0) ^ duty.pass(0) ^ duty.goRound(1, true) ^ duty.come(0, 5) ^ duty.register(3, true) ^ duty.drift(60) ^ duty.undo();
        x ^= duty.follows(7) ^ duty.owed(31) ^ duty.parts(3, 1) ^ duty.talkDown(3, 2, 1) ^ duty.soonest(2) ^ duty.smallest(0) ^ duty.smallest(1);
        x ^= duty.better(2, 99) ^ duty.gains(2, 3) ^ duty.free() ^ duty.share(2) ^ duty.glacier(60);
        x ^= duty.ask(7, 3, true) ^ duty.minds(2) ^ duty.askNext() ^ duty.write(1, 1) ^ duty.judge() ^ duty.tear();
        return x ^ duty.seed(5) ^ duty.keep(0) ^ duty.goBack(0);
    }
}
