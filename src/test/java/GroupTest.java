/** Promises 26 to 31: the group of recurrent states, and levels. */
final class GroupTest {
    private static final Check CHECK = new Check("GroupTest");

    private static void due(String call, long got, long want) {
        CHECK.due(call, got, want);
    }

    public static void main(String[] arguments) {
        treeCount();
        treeCountOfDenseGraph();
        identity();
        identityAfterOtherCalls();
        order();
        factorsOfNamedGraphs();
        factorsOfManyEdges();
        factorRefusals();
        level();
        levelCounts();
        levelCountRefusals();
        CHECK.end();
    }

    private static void treeCount() {
        due("26 path", Check.named("path8").treeCount(), 1);
        due("26 star", Check.named("star8").treeCount(), 1);
        due("26 cycle", Check.named("cycle7").treeCount(), 7);
        due("26 complete", Check.named("complete6").treeCount(), 1296);
        due("26 wheel", Check.named("wheel8").treeCount(), 841);
        due("26 two edges", Check.drawn(2, 0, 1, 1, 0).treeCount(), 2);
        due("26 no edges", Check.drawn(3).treeCount(), 0);
        due("26 unconnected", Check.drawn(4, 0, 1, 2, 3, 3, 2).treeCount(), 0);
        due("26 the sink alone", Check.drawn(4, 1, 2, 2, 3, 3, 1).treeCount(), 0);
        ChipGame x = Check.named("wheel6");
        for (int sink = 0; sink < 6; sink++) {
            x.setSink(sink);
            due("26 any sink", x.treeCount(), 121);
        }
    }

    private static void treeCountOfDenseGraph() {
        ChipGame x = new ChipGame();
        x.reset(8);
        for (int distance = 1; distance <= 3; distance++) {
            for (int v = 0; v < 8 && x.value(1) < 20; v++) {
                x.addEdge(v, (v + distance) % 8);
            }
        }
        due("26 twenty edges", x.treeCount(), 19942);
        ChipGame pair = new ChipGame();
        Check.fill(pair, 1, 0);
        due("26 twenty between two", pair.treeCount(), 20);
    }

    private static void identity() {
        ChipGame x = Check.named("cycle4");
        x.setChips(1, 1);
        due("27 node 1", x.identity(1), 1);
        due("27 node 2", x.identity(2), 0);
        due("27 node 3", x.identity(3), 1);
        due("27 unchanged", Check.digits(x), 100);
        due("27 not recorded", x.value(5), 1);
        due("27 sink", x.identity(0), ChipGame.UNKNOWN);
        due("27 below", x.identity(-1), ChipGame.UNKNOWN);
        due("27 above", x.identity(4), ChipGame.UNKNOWN);
        x.removeEdge(0);
        due("27 path", x.identity(1), 0);
        x.removeEdge(0);
        due("27 unconnected", x.identity(1), ChipGame.NOT_CONNECTED);
        due("27 unknown before unconnected", x.identity(0), ChipGame.UNKNOWN);
        ChipGame complete = Check.named("complete4");
        for (int v = 1; v < 4; v++) {
            due("27 complete4", complete.identity(v), 2);
        }
    }

    private static void identityAfterOtherCalls() {
        ChipGame x = Check.named("cycle6");
        x.setSink(3);
        Check.setAll(x, 1, 2, 0, 5, 4);
        x.keep(0);
        x.isSameClass(0);
        x.firings(1);
        due("27 opposite the sink", x.identity(0), 0);
        x.makeRecurrent();
        x.add(0);
        int[] want = {0, 1, 1, ChipGame.UNKNOWN, 1, 1};
        for (int v = 0; v < 6; v++) {
            due("27 node " + v, x.identity(v), want[v]);
            x.firings(v);
        }
    }

    private static void order() {
        ChipGame x = Check.named("cycle6");
        due("28 nothing", x.order(), 1);
        int[] orders = {6, 3, 2, 3, 6};
        for (int v = 1; v < 6; v++) {
            Check.setAll(x, 0, 0, 0, 0, 0);
            x.setChips(v, 1);
            due("28 one chip on " + v, x.order(), orders[v - 1]);
        }
        Check.setAll(x, 0, 0, 0, 0, 999);
        due("28 not stable", x.order(), 2);
        Check.setAll(x, 1, 1, 1, 1, 1);
        due("28 recurrent", x.order(), 2);
        x.makeRecurrent();
        due("28 of the class", x.order(), 2);
        due("28 not recorded", x.value(5), 12);
        x.removeEdge(0);
        due("28 tree", x.order(), 1);
        x.removeEdge(0);
        due("28 unconnected", x.order(), ChipGame.NOT_CONNECTED);
    }

    private static void factors(ChipGame x, long... want) {
        due("29 number", x.factor(-1), want.length);
        for (int k = 0; k < want.length; k++) {
            due("29 factor " + k, x.factor(k), want[k]);
        }
        due("29 behind the last", x.factor(want.length), ChipGame.NO_VALUE);
    }

    private static void factorsOfNamedGraphs() {
        factors(Check.named("path5"));
        factors(Check.named("star2"));
        factors(Check.named("cycle8"), 8);
        factors(Check.named("complete3"), 3);
        factors(Check.named("complete5"), 5, 5, 5);
        factors(Check.named("complete6"), 6, 6, 6, 6);
        factors(Check.named("wheel4"), 4, 4);
        factors(Check.named("wheel5"), 3, 15);
        factors(Check.named("wheel6"), 11, 11);
        factors(Check.named("wheel7"), 8, 40);
        factors(Check.named("wheel8"), 29, 29);
    }

    private static void factorsOfManyEdges() {
        factors(Check.drawn(4, 0, 1, 0, 1, 1, 2, 1, 2, 1, 2, 2, 3, 2, 3, 2, 3, 2, 3), 2, 12);
        factors(Check.drawn(3, 0, 1, 0, 1, 0, 2, 0, 2, 0, 2), 6);
        factors(Check.drawn(3, 0, 1, 0, 1, 1, 2, 1, 2), 2, 2);
        factors(Check.drawn(4, 0, 1, 0, 1, 0, 2, 0, 2, 0, 2, 0, 2, 0, 3, 0, 3, 0, 3, 0, 3, 0, 3, 0, 3), 2, 2, 12);
    }

    private static void factorRefusals() {
        ChipGame x = Check.named("cycle5");
        due("29 far below", x.factor(-2), ChipGame.NO_VALUE);
        due("29 least", x.factor(Integer.MIN_VALUE), ChipGame.NO_VALUE);
        due("29 most", x.factor(Integer.MAX_VALUE), ChipGame.NO_VALUE);
        due("29 eight", x.factor(8), ChipGame.NO_VALUE);
        x.removeEdge(0);
        due("29 no factors", x.factor(0), ChipGame.NO_VALUE);
        due("29 none", x.factor(-1), 0);
        x.removeEdge(0);
        due("29 unconnected", x.factor(-1), ChipGame.NO_VALUE);
        due("29 unconnected", x.factor(0), ChipGame.NO_VALUE);
        due("29 unconnected", x.factor(-2), ChipGame.NO_VALUE);
    }

    private static void level() {
        ChipGame x = Check.named("complete4");
        Check.setAll(x, 2, 2, 2);
        due("30 highest", x.level(), 3);
        Check.setAll(x, 0, 1, 2);
        due("30 lowest", x.level(), 0);
        Check.setAll(x, 1, 1, 2);
        due("30 one", x.level(), 1);
        Check.setAll(x, 1, 1, 1);
        due("30 not recurrent", x.level(), ChipGame.NOT_POSSIBLE);
        Check.setAll(x, 3, 2, 2);
        due("30 not stable", x.level(), ChipGame.NOT_POSSIBLE);
        due("30 all burn though", x.burnt(3), 1);
        ChipGame apart = Check.drawn(3, 0, 1);
        due("30 unconnected", apart.level(), ChipGame.NOT_POSSIBLE);
        due("30 all burn though", apart.burnt(2), 1);
    }

    private static void levels(ChipGame x, long... want) {
        for (int level = 0; level < want.length; level++) {
            due("31 level " + level, x.levelCount(level), want[level]);
        }
        for (int level = want.length; level < 25; level++) {
            due("31 level " + level, x.levelCount(level), 0);
        }
    }

    private static void levelCounts() {
        levels(Check.named("path6"), 1);
        levels(Check.named("cycle5"), 4, 1);
        levels(Check.named("complete4"), 6, 6, 3, 1);
        levels(Check.named("complete5"), 24, 36, 30, 20, 10, 4, 1);
        levels(Check.named("wheel5"), 14, 16, 10, 4, 1);
        levels(Check.drawn(3, 0, 1, 0, 1, 1, 2, 1, 2), 1, 2, 1);
        ChipGame pair = new ChipGame();
        Check.fill(pair, 0, 1);
        for (int level = 0; level < 20; level++) {
            due("31 twenty between two", pair.levelCount(level), 1);
        }
        due("31 twenty between two", pair.levelCount(20), 0);
    }

    private static void levelCountRefusals() {
        ChipGame x = Check.named("cycle5");
        due("31 below", x.levelCount(-1), ChipGame.BAD_VALUE);
        due("31 least", x.levelCount(Integer.MIN_VALUE), ChipGame.BAD_VALUE);
        due("31 most", x.levelCount(Integer.MAX_VALUE), 0);
        x.reset(3);
        due("31 unconnected", x.levelCount(0), ChipGame.NOT_CONNECTED);
        due("31 unconnected, high", x.levelCount(50), ChipGame.NOT_CONNECTED);
        due("31 bad before unconnected", x.levelCount(-1), ChipGame.BAD_VALUE);
    }
}
