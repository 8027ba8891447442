import java.lang.management.ManagementFactory;

/**
 * All calls of a run live in one room, so no call makes anything: 512 of the dearest calls
 * take no more room than one of them, and an object is small.
 */
public final class RoomTest {
    private static final Checks CHECKS = new Checks();
    private static final String FULL_YARD = "place 0 1 2;place 1 2 3;place 2 3 4;place 3 4 5;place 4 5 6;place 5 6 7;"
        + "place 6 7 8;place 7 8 9;layer 1;broody 2;pullet 3;china 4;layer 5";

    public static void main(String[] args) {
        com.sun.management.ThreadMXBean room = (com.sun.management.ThreadMXBean) ManagementFactory.getThreadMXBean();
        HenOracle x = Checks.yardOf(FULL_YARD);
        everyCall(x);
        long before = room.getThreadAllocatedBytes(Thread.currentThread().getId());
        for (int i = 0; i < 512; i++) {
            everyCall(x);
        }
        long behind = room.getThreadAllocatedBytes(Thread.currentThread().getId());
        System.out.println("512 rounds of all calls took " + (behind - before) + " bytes");
        CHECKS.due("calls make nothing", behind - before < 4096, true);
        before = room.getThreadAllocatedBytes(Thread.currentThread().getId());
        new HenOracle();
        behind = room.getThreadAllocatedBytes(Thread.currentThread().getId());
        System.out.println("an object takes " + (behind - before) + " bytes");
        CHECKS.due("an object is small", behind - before < 16384, true);
        CHECKS.end("RoomTest");
    }

    private static void everyCall(HenOracle x) {
        x.write('c');
        x.write('a');
        x.write('l');
        x.write('m');
        x.fault();
        x.erase();
        x.yard();
        x.day();
        x.thunder();
        x.straw(0, 3);
        x.move(0, 1);
        x.day();
        x.eat(7);
        x.heed(6);
        x.undo();
        x.keep(0);
        x.back(0);
        x.lays(0, 30);
        x.rights(0, 30);
        x.ask(30, 0);
        x.trough(20);
        x.warmth(4, 7);
        x.seen(0, 14, 0);
        x.kinds(0);
        x.habits(0);
        x.forget();
        x.foxes(0, 6, 3, 0);
        x.count(7);
        x.place(0, 0);
        x.hen(0, 0);
        x.as(0, 1);
        x.news(3);
    }
}
