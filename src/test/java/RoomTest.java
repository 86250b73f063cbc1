import java.lang.management.ManagementFactory;

/** All calls of a run live in one room, so no call may make objects: rows are made once, in the constructor. */
public final class RoomTest {
    private static final int ROUNDS = 200;
    private static final long SLACK = 200_000;

    private static long sink = 0;

    public static void main(String[] args) {
        com.sun.management.ThreadMXBean threads =
            (com.sun.management.ThreadMXBean) ManagementFactory.getThreadMXBean();
        if (!threads.isThreadAllocatedMemorySupported() || !threads.isThreadAllocatedMemoryEnabled()) {
            System.out.println("this machine does not tell what is allocated");
            return;
        }
        ClinchClock x = new ClinchClock();
        fill(x);
        everyCall(x);
        long thread = Thread.currentThread().getId();
        long before = threads.getThreadAllocatedBytes(thread);
        for (int i = 0; i < ROUNDS; i++) {
            everyCall(x);
        }
        long made = threads.getThreadAllocatedBytes(thread) - before;
        System.out.println(made + " bytes made by " + ROUNDS + " rounds of all calls (" + sink % 10 + ")");
        if (made > SLACK) {
            System.exit(1);
        }
    }

    private static void fill(ClinchClock x) {
        x.supply(25);
        for (int b = 0; b < 8; b++) {
            x.join();
            for (int i = 0; i < 7; i++) {
                x.value(b, 97 - 11 * i - b);
            }
        }
    }

    private static void everyCall(ClinchClock x) {
        acts(x);
        for (int kind = 0; kind < 4; kind++) {
            sink += x.hold(kind) + x.undo();
            sink += x.pays(1, kind) + x.gain(1, kind) + x.paid(kind) + x.dearest(kind) + x.perUnit(1, kind);
            sink += x.envies(1, kind) + x.blocks(kind) + x.bestReserve(kind) + x.paidWithout(1, kind);
            sink += x.tells(1, kind, 3) + x.bestTells(1, kind) + x.hides(1, kind, 3) + x.bestHides(1, kind);
            sink += x.inTwo(5, kind) + x.splitGain(1, 2, kind) + x.collude(1, 2, kind) + x.report(kind, 20);
        }
        for (int what = 0; what < 10; what++) {
            sink += x.of(1, what) + x.at(1, 40, what) + x.result(what) + x.count(what) + x.record(0, what);
            sink += x.sold(3, what) + x.clinch(1, 1, what) + x.ranked(20, what) + x.step(5, what);
            sink += x.bySupply(7, what) + x.byReserve(50, what);
        }
        sink += x.valueOf(1, 1) + x.unit(1, 1) + x.wanted(30) + x.worth(85, 25) + x.alike(1, 2) + x.priceFor(9);
        sink += x.unitsWithout(1, 2) + x.pivot() + x.reserveFor(5) + x.supplyFor(20) + x.valueFor(1) + x.spell(30);
    }

    private static void acts(ClinchClock x) {
        sink += x.feed(0x78787878, 1, 2, 3, 4) + x.back(2) + x.text();
        sink += (x.leave(7) ? 1 : 0) + x.join() + x.undo() + x.copy(0) + x.undo() + x.split(1, 2) + x.undo() + x.undo();
        sink += x.value(1, 50) + x.undo() + x.without(1, 1) + x.undo() + x.change(1, 1, 2) + x.undo();
        sink += x.cap(1, 3) + x.undo() + x.clear(1) + x.undo() + x.shade(1, 9) + x.undo();
        sink += (x.move(1, 5) ? 1 : 0) + x.undo() + (x.swap(1, 5) ? 1 : 0) + x.undo();
        sink += x.supply(3) + x.undo() + x.reserve(3) + x.undo();
    }
}
