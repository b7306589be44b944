/** "An object is used for at most 512 calls after it has been made": all of them are answered as due. */
final class LifeTest {
    private static final Check CHECK = new Check("LifeTest");
    private static final int CALLS = 512;
    private static final long[] LAST = {7, 3, 15, 45, 16, 43, 13, 11};

    public static void main(String[] arguments) {
        lastCallsOfAHistory();
        lastCallOfEachKind();
        fullOfEdges();
        CHECK.end();
    }

    private static void lastCallsOfAHistory() {
        CHECK.sentence("An object is used for at most 512 calls after it has been made: a history");
        ChipGame x = new ChipGame();
        for (int call = 1; call <= CALLS - 24; call++) {
            CHECK.due("setChips()", x.setChips(1, call), call - 1);
        }
        for (int left = 11; left >= 0; left--) {
            CHECK.due("undo()", x.undo(), left);
            CHECK.due("chips(1)", x.chips(1), CALLS - 24 - 12 + left);
        }
    }

    /** The calls before the last one: 7 to name the graph, 495, 8 to set all chips, and keep(). */
    private static void lastCallOfEachKind() {
        CHECK.sentence("An object is used for at most 512 calls after it has been made: the last one");
        for (int kind = 0; kind < 8; kind++) {
            ChipGame x = Check.named("wheel5");
            for (int call = 8; call <= CALLS - 10; call++) {
                x.setChips(1 + call % 4, call % 7);
            }
            Check.setAll(x, 9, 0, 4, 0);
            x.keep(0);
            CHECK.due("call " + CALLS + " of kind " + kind, lastCall(x, kind), LAST[kind]);
        }
    }

    private static long lastCall(ChipGame x, int kind) {
        return switch (kind) {
            case 0 -> x.stabilize();
            case 1 -> x.firings(1);
            case 2 -> x.factor(1);
            case 3 -> x.treeCount();
            case 4 -> x.levelCount(1);
            case 5 -> x.treeAt(3);
            case 6 -> x.load(0);
            default -> x.undo();
        };
    }

    private static void fullOfEdges() {
        CHECK.sentence("An object is used for at most 512 calls after it has been made: changes of the graph");
        ChipGame x = Check.drawn(8);
        for (int call = 1; call + 42 <= CALLS; call += 42) {
            for (int e = 0; e < 20; e++) {
                CHECK.due("addEdge()", x.addEdge(e % 8, (e + 3) % 8), e);
            }
            CHECK.due("addEdge() of one more", x.addEdge(1, 2), ChipGame.FULL);
            for (int e = 19; e >= 0; e--) {
                CHECK.due("removeEdge()", x.removeEdge(e / 2), e);
            }
            CHECK.due("removeEdge() of none", x.removeEdge(0), ChipGame.UNKNOWN);
        }
    }
}
