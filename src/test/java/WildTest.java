/** Calls with any arguments in any state, far more than 512 on an object: none may ever throw. */
final class WildTest {
    private static final Check CHECK = new Check("WildTest");
    private static final int[] EXTREMES = {Integer.MIN_VALUE, Integer.MIN_VALUE + 1, -65536, -32, -1, 8, 9,
        20, 21, 31, 32, 33, 64, 1000, 1001, 2000, 1 << 20, 1 << 30, Integer.MAX_VALUE - 1, Integer.MAX_VALUE};
    private static final String SIGNS = "pathcyclestarwheelomplete0123456789\0\u00ff\uffff";
    private static long seed = 34;

    private static int draw(int bound) {
        seed = seed * 6364136223846793005L + 1442695040888963407L;
        return (int) ((seed >>> 33) % bound);
    }

    private static int argument() {
        return draw(4) == 0 ? EXTREMES[draw(EXTREMES.length)] : draw(9);
    }

    public static void main(String[] arguments) {
        for (int run = 0; run < 60; run++) {
            ChipGame x = new ChipGame();
            for (int call = 0; call < 3000; call++) {
                int kind = draw(34);
                CHECK.that("run " + run + ", kind " + kind + " answers", answers(x, kind));
            }
        }
        CHECK.end();
    }

    private static boolean answers(ChipGame x, int kind) {
        try {
            call(x, kind);
            return true;
        } catch (RuntimeException thrown) {
            thrown.printStackTrace(System.out);
            return false;
        }
    }

    private static long call(ChipGame x, int kind) {
        int a = argument();
        int b = argument();
        return switch (kind) {
            case 0 -> draw(20) == 0 ? x.reset(a) : x.value(a);
            case 1, 2, 3, 4 -> x.addEdge(a, b);
            case 5 -> draw(4) == 0 ? x.removeEdge(a) : x.degree(a);
            case 6 -> draw(4) == 0 ? x.setSink(a) : x.chips(a);
            case 7 -> x.type(SIGNS.charAt(draw(SIGNS.length())));
            case 8 -> draw(4) == 0 ? x.clearText() : x.edge(a, draw(2) == 0);
            case 9 -> x.readGraph();
            case 10, 11 -> x.setChips(a, b);
            case 12, 13 -> x.fire(a);
            case 14 -> x.stabilize();
            case 15 -> x.firings(a);
            case 16 -> x.reduce();
            case 17 -> x.makeRecurrent();
            case 18 -> x.kind();
            case 19 -> x.burnt(a);
            case 20 -> x.undo();
            case 21 -> x.keep(a);
            case 22 -> x.load(a);
            case 23 -> x.add(a);
            case 24 -> x.isSameClass(a);
            case 25 -> x.treeCount();
            case 26 -> x.identity(a);
            case 27 -> x.order();
            case 28 -> x.factor(a);
            case 29 -> x.level();
            case 30 -> x.levelCount(a);
            case 31 -> x.tree();
            case 32 -> x.takeTree(draw(2) == 0 ? a : x.treeAt(b));
            default -> x.treeAt(a);
        };
    }
}
