import com.sun.management.ThreadMXBean;
import java.lang.management.ManagementFactory;

/** That no call makes objects: all calls of a run live in one room. */
public final class RoomTest {
    public static void main(String[] args) {
        Due due = new Due("RoomTest");
        ThreadMXBean threads = (ThreadMXBean) ManagementFactory.getThreadMXBean();
        ThreeSnowballs x = new ThreeSnowballs();
        long sum = calls(x);
        long before = threads.getCurrentThreadAllocatedBytes();
        sum += calls(x);
        long made = threads.getCurrentThreadAllocatedBytes() - before;
        due.due("calls behind the constructor made " + made + " bytes (" + sum + ")", made < 2000 ? 1 : 0, 1);
        before = threads.getCurrentThreadAllocatedBytes();
        x = new ThreeSnowballs();
        made = threads.getCurrentThreadAllocatedBytes() - before;
        due.due("a constructor made " + made + " bytes", made < 100000 ? 1 : 0, 1);
        due.end();
    }

    private static long calls(ThreeSnowballs x) {
        long sum = x.row(0, 0, 60) + x.put(0, 0, 4) + x.put(0, 1, 5) + x.players(0, 0, 4) + x.order(4321) + x.bell(9);
        sum += x.feed('h') + x.feed('-') + x.feed('n') + x.law() + x.body(7) + x.act(0, 3, 9) + x.keep(1, 0) + x.taken(1, 0);
        for (int player = 0; player < 4; player++) {
            sum += x.mend(player, 1, 5) + x.worth(player, 1, 0) + x.begin(player) + x.would(player) + x.settle(player);
            sum += x.even(player) + x.points(player) + x.drawn(player, 30, player) + x.aims(player, 15, 0) + x.step(0);
        }
        sum += x.just(-1, 0) + x.fair() + x.rest() + x.league(12) + x.judge(0, 1) + x.chance(0, 0) + x.seen(3, 7);
        return sum + x.image() + x.back() + x.anew() + x.undo() + x.redo() + x.shift(0, 0, 0, 1, 9) + x.element(0, 1);
    }
}
