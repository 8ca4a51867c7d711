import java.lang.management.ManagementFactory;

/** What an object takes of the room: all is made with it, and calls make nothing. */
public final class RoomTests {
    private static final int CALLS = 512;
    private static int sum;

    public static void main(String[] args) {
        com.sun.management.ThreadMXBean bean = (com.sun.management.ThreadMXBean) ManagementFactory.getThreadMXBean();
        if (!bean.isThreadAllocatedMemorySupported()) {
            System.out.println("this machine does not count what is made");
            return;
        }
        long id = Thread.currentThread().getId();
        for (int i = 0; i < 20; i++) {
            use(new OakDeeds());
        }
        long start = bean.getThreadAllocatedBytes(id);
        OakDeeds x = new OakDeeds();
        long made = bean.getThreadAllocatedBytes(id);
        use(x);
        long used = bean.getThreadAllocatedBytes(id);
        System.out.println("an object takes " + (made - start) + " bytes, its calls " + (used - made) + " (" + sum + ")");
        // The count itself may make a little; one row of numbers a call would be far above this.
        if (made - start > 40000 || used - made > CALLS * 8) {
            System.out.println("too much of the room is taken");
            System.exit(1);
        }
    }

    private static void use(OakDeeds x) {
        x.stone(3, 25);
        x.deed(505, 7, 0);
        x.deed(909, 7, 0);
        x.deal(0, 10);
        x.deal(1, 9);
        x.call(1, 3, 1);
        x.sheet(0, 1, 9);
        x.keep();
        for (int i = 0; i < (CALLS - 8) / 14; i++) {
            // "first n*(y+1)", by twelve bytes: a text of its own each round
            sum += x.feed(0x66697273, 0x74206e2a, 0x28792b31) + x.feed(0x29202020, 0x20202020, 0x20202020);
            sum += x.text() + x.would(0, i, i) + x.owned(-1) + x.slip(0, 0) + x.best(0, 3) + x.learn(7);
            sum += x.near(0, 0) + x.lay(1, 2, 0) + x.tell(i) + x.keep() + x.back() + x.over(0, 1);
        }
    }
}
