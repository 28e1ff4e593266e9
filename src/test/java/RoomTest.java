import com.sun.management.ThreadMXBean;
import java.lang.management.ManagementFactory;

/** All calls of a run live in one small room: an object is made once, and no call makes anything more. */
public final class RoomTest {
    private static final ThreadMXBean THREADS = (ThreadMXBean) ManagementFactory.getThreadMXBean();
    private static final String TEXT = "notes 6 long 5; tune a 0 1 2 3 4 keep 1; tune b 5 4 3 2 1 keep 2; tune c 0 0 0 0 0 keep 3;"
        + "place sum*kept+last when not [all and (sum+1)*2<min(3,max(4,here))]; place kept when all; note old+sum+kept when all;"
        + "kept kept*7+sum+1 when all; door d lip 40 2; door e window 40 9; door f pair 40; door g reset 40 9;"
        + "person p door d tune a loses 50 errs 50; person q door d tune b loses 40 errs 50;"
        + "person r door d tune c loses 30 errs 50; person s door f tune a loses 20 errs 50; worth 100 200;";

    public static void main(String[] args) {
        Check check = new Check();
        calls(new TuneDoor());
        long before = allocated();
        TuneDoor door = new TuneDoor();
        long made = allocated() - before;
        System.out.println("an object takes " + made + " bytes");
        check.due("an object is below 200000 bytes", made < 200000, true);
        Check.tape(door, TEXT.getBytes(java.nio.charset.StandardCharsets.ISO_8859_1));
        before = allocated();
        calls(door);
        long more = allocated() - before;
        System.out.println("all calls take " + more + " bytes more");
        // The measuring itself takes a few.
        check.due("calls make nothing", more < 2000, true);
        check.close();
    }

    private static long allocated() {
        return THREADS.getThreadAllocatedBytes(Thread.currentThread().getId());
    }

    private static void calls(TuneDoor x) {
        x.house();
        for (int i = 0; i < 4; i++) {
            x.nights(60);
            x.come(i);
            x.slip(i, 0, 1);
            x.waste(i, 1);
            x.mend(i);
            x.likely(i, 8);
            x.lost(i, 8);
            x.bears(i);
            x.stranger(i, 500);
            x.near(i);
            x.cost(i, 6, 0, 1);
            x.would(i);
            x.bird(i, 0, 3, 100);
            x.knows(i, 0, 30);
            x.sure(i, 0);
            x.right(i, 0, 30);
            x.round(i, 0);
            x.find(i, 0, 7775);
            x.same(i, 1, 0);
            x.tells(i, 1, 0);
            x.letter(0, i, 0);
        }
        x.image();
        x.feed(0, 0, 0, 0, 0);
        x.on();
        x.feed(0, 0, 0, 0, 0);
        x.house();
        x.feed(0, 0, 0, 0, 0);
        x.end(5);
        x.listen(0);
    }
}
