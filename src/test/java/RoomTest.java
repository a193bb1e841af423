import com.sun.management.ThreadMXBean;
import java.lang.management.ManagementFactory;

/** The room: an object is small, and no call makes anything more. */
final class RoomTest {
    private static final ThreadMXBean BEAN = (ThreadMXBean) ManagementFactory.getThreadMXBean();

    public static void main(String[] args) {
        long[] taken = new long[3];
        for (int round = 0; round < 3; round++) {
            long before = allocated();
            Unmade one = new Unmade();
            taken[round] = allocated() - before;
            Kit.due("status", one.status(), 0);
        }
        // three rows of 4,096 ints are 49 thousand bytes
        Kit.due("a new object takes some 70,000 bytes, not " + taken[2], taken[2] < 90000 ? 1 : 0, 1);
        Kit k = Kit.of(TextsTest.TOWN);
        k.centuries("loop 99;joke;year 9;remake nail;remake wood;end;");
        for (int round = 0; round < 3; round++) {
            long before = allocated();
            calls(k.it);
            taken[round] = allocated() - before;
        }
        Kit.due("calls make nothing, not " + taken[2], taken[2] <= 0 ? 1 : 0, 1);
        Kit.end("RoomTest");
    }

    private static long allocated() {
        return BEAN.getThreadAllocatedBytes(Thread.currentThread().getId());
    }

    private static void calls(Unmade x) {
        x.mark();
        x.live(7);
        x.mean(0, 20);
        x.back();
        x.keep(1, 12);
        x.strike(2);
        x.agenda(63);
        x.game(3, 4);
        x.firstMove(3, 4);
        x.again(5);
        x.tells(255);
        x.sure(255);
        x.histories();
        x.clash();
        x.aheadOdds(0, 6);
        x.feed(0x20202020, 0x20202020, 0x20202020, 0x20202020, 0x20202020);
        x.centuries(21);
    }
}
