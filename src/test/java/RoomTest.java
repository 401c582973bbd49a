import com.sun.management.ThreadMXBean;
import java.lang.management.ManagementFactory;

/** All calls of a run share one room: a desk takes its room when it is made, and its calls take none. */
public final class RoomTest {
    private static final ThreadMXBean THREADS = (ThreadMXBean) ManagementFactory.getThreadMXBean();
    private static final String RESULTS = "0-5:9999-1234@99x3;1-2:7-7@6;3-4:1-0@0";
    private static final String CONDITION = "!((!(home=0|away=5))&(margin>-3|won=2))&!!(void=0&against<9999)|day=6";

    private static int answers = 0;

    private static void feed(ScheduleDesk x, String text) {
        for (int i = 0; i < text.length(); i++) {
            answers += x.feed(text.charAt(i));
        }
    }

    /** The dearest call of each kind, some 300 calls with their texts. */
    private static void callAll(ScheduleDesk x) {
        x.teams(6);
        for (int g = 0; g < 20; g++) {
            answers += x.game(g % 6, (g + 1 + g / 6) % 6, g * 7 % 11, g * 5 % 9, g, 1 + g % 3);
        }
        for (int f = 0; f < 12; f++) {
            answers += x.fixture(f % 6, (f + 1) % 6);
        }
        x.guess(0, 3, 5, 5);
        x.image();
        feed(x, RESULTS);
        answers += x.results();
        feed(x, CONDITION);
        answers += x.pick();
        feed(x, CONDITION);
        answers += x.voidAll(1) + x.spell() + x.paper(3);
        for (int model = 0; model < 3; model++) {
            answers += x.matrix(model, 99, 0, 0) + x.right(model, 99, 0) + x.det(model, 99);
            answers += x.cofactor(model, 99, 1, 2) + x.rating(model, 99, 5, 0) + x.schedule(model, 99, 5, 1);
            answers += x.rank(model, 99, 5) + x.predict(model, 99, 0, 1) + x.upsets(model, 99);
            answers += x.would(model, 99, 5, 0) + x.without(model, 99, 1, 5, 0) + x.upturns(model, 99, 1);
            answers += x.score(model, 99, 5) + x.place(model, 99, 5);
            answers += x.list(model, 20) + x.set(model, 3, 4) + x.get(model, 3) + x.judge(model, 99, model, 0);
        }
        answers += x.duel(-1, 0) + x.duel(3, 2) + x.beaten(99, 0, 1) + x.rings(99);
        answers += x.told(7) + x.told(8) + x.undo() + x.drop() + x.clears() + x.clear();
    }

    public static void main(String[] args) {
        ScheduleDesk x = new ScheduleDesk();
        // The first round loads and links; only then does the count tell of the calls alone.
        callAll(x);
        long id = Thread.currentThread().getId();
        THREADS.getThreadAllocatedBytes(id);
        long before = THREADS.getThreadAllocatedBytes(id);
        for (int round = 0; round < 100; round++) {
            callAll(x);
        }
        long taken = THREADS.getThreadAllocatedBytes(id) - before;
        System.out.println("100 rounds of calls took " + taken + " bytes");
        // One object a round would be 1600 bytes at the least; less is the count's own.
        if (taken > 1000 || answers == 0) {
            System.exit(1);
        }
    }
}
