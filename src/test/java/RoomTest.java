import java.lang.management.ManagementFactory;

/** Calls make no objects: all 512 calls of an object live in what its constructor made. */
public final class RoomTest {
    public static void main(String[] args) {
        Due due = new Due();
        due.about("the room of a run");
        run(new SofaStair());
        long before = allocated();
        SofaStair stair = new SofaStair();
        long made = allocated() - before;
        run(stair);
        long calls = allocated() - before - made;
        due.holds("an object takes " + made + " bytes", made < 200_000);
        due.holds("512 calls take " + calls + " bytes", calls < 5_000);
        due.end();
    }

    private static long allocated() {
        return ((com.sun.management.ThreadMXBean) ManagementFactory.getThreadMXBean()).getCurrentThreadAllocatedBytes();
    }

    private static void run(SofaStair s) {
        s.size(6, 6, 4);
        for (int t = 0; t < 4; t++) {
            say(s, "000-100a010b");
            s.thing(t);
            s.lay(t, 200 * (t % 2) + 30 * (t / 2));
            s.goal(t, 552);
        }
        s.fill(300, 353, 2);
        for (int i = 0; i < 45; i++) {
            s.cost(-2, 0, i % 10);
            s.goes(0, 0, 1, -1);
            s.effort(1, 0, 1, -1);
            s.room(2, 0);
            s.least(3, i % 3);
            s.bar(i % 16);
            s.order(15, i % 4);
            s.came(0, i % 2);
            s.image(i % 2);
            s.restore(0);
        }
    }

    private static void say(SofaStair s, String text) {
        for (int i = 0; i < text.length(); i++) s.say(text.charAt(i));
    }
}
