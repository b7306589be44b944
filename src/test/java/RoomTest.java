import java.lang.management.ManagementFactory;

/** The room that LANGUAGE.md leaves to all calls of a run: an object and its calls stay below it. */
final class RoomTest {
    private static final Check CHECK = new Check("RoomTest");
    private static final int CALLS = 512;
    private static final long MOST_ELEMENTS = 7_300_000;
    private static final long LEAST_BYTES_OF_ONE = 4;

    private static long allocated() {
        com.sun.management.ThreadMXBean threads =
            (com.sun.management.ThreadMXBean) ManagementFactory.getThreadMXBean();
        return threads.getThreadAllocatedBytes(Thread.currentThread().getId());
    }

    public static void main(String[] arguments) {
        callAll(CALLS);
        long before = allocated();
        long sum = callAll(CALLS);
        long bytes = allocated() - before;
        CHECK.that("calls answered", sum != 0);
        boolean isSmall = bytes > 0 && bytes < MOST_ELEMENTS * LEAST_BYTES_OF_ONE;
        CHECK.that(bytes + " bytes for an object and its calls", isSmall);
        CHECK.end();
    }

    private static long callAll(int calls) {
        ChipGame x = new ChipGame();
        x.reset(8);
        for (int distance = 1; distance <= 3; distance++) {
            for (int v = 0; v < 8; v++) {
                x.addEdge(v, (v + distance) % 8);
            }
        }
        for (int v = 1; v < 8; v++) {
            x.setChips(v, 1000);
        }
        x.keep(0);
        long sum = 0;
        for (int call = 40; call < calls; call++) {
            sum += callOne(x, call);
        }
        return sum;
    }

    private static long callOne(ChipGame x, int call) {
        switch (call % 20) {
            case 0:
                return x.load(0);
            case 1:
                return x.add(0);
            case 2:
                return x.firings(3);
            case 3:
                return x.isSameClass(0);
            case 4:
                return x.order();
            case 5:
                return x.factor(0);
            case 6:
                return x.levelCount(call % 7);
            case 7:
                return x.treeAt(call * 30);
            case 8:
                return x.identity(4);
            case 9:
                return x.makeRecurrent();
            case 10:
                return x.tree();
            case 11:
                return x.takeTree(x.treeAt(call));
            case 12:
                return x.level();
            case 13:
                return x.reduce();
            case 14:
                return x.undo();
            case 15:
                return x.kind();
            case 16:
                return x.burnt(5);
            case 17:
                return x.treeCount();
            case 18:
                return x.type('w');
            default:
                return x.clearText() + x.stabilize();
        }
    }
}
