import java.lang.management.ManagementFactory;

/** All calls of one run live in one room: what a new object takes, and that no call takes more. */
public final class RoomTest {
    private static final Check check = new Check();
    private static final com.sun.management.ThreadMXBean THREAD =
            (com.sun.management.ThreadMXBean) ManagementFactory.getThreadMXBean();

    public static void main(String[] args) {
        KnotNames x = Check.told("hulioulio;h;hul;hui;hl;ho;");
        callAll(x);
        long before = bytes();
        for (int round = 0; round < 12; round++) {
            callAll(x);
        }
        long calls = bytes() - before;
        check.due("bytes that 372 calls take are few: " + calls, calls < 4096 ? 1 : 0, 1);

        before = bytes();
        for (int i = 0; i < 100; i++) {
            new KnotNames();
        }
        long made = (bytes() - before) / 100;
        check.due("bytes that an object takes are few: " + made, made < 24000 ? 1 : 0, 1);
        check.end();
    }

    private static long bytes() {
        return THREAD.getThreadAllocatedBytes(Thread.currentThread().getId());
    }

    private static void callAll(KnotNames x) {
        x.type('h');
        x.clear();
        x.name(0, -1);
        x.contract(-1);
        x.now(1);
        x.ties(1, 2);
        x.loosens(0);
        x.bends(1, 2);
        x.unties(3);
        x.adds(3);
        x.tears();
        x.undo();
        x.alike(0);
        x.ring(0);
        x.way(0, 1);
        x.root(0);
        x.order(0);
        x.cold(0, 0, 3, 1);
        x.mixed(0, 3);
        x.newName(4, 2, 3);
        x.pulls(2);
        x.lives(0);
        x.next();
        x.porridge(3, 6, 2, 0);
        x.share(0, 50);
        x.rate(3, 0);
        x.keep(0);
        x.back(0);
        x.count(0);
        x.trace();
        x.undo();
    }
}
