/**
 * Long runs of calls, drawn from a fixed sequence of numbers, compared with SlowGame. A check is a
 * call, and after its 512th call an object may answer as it likes, so the runs end before.
 */
final class SlowGameTest {
    private static final Check CHECK = new Check("SlowGameTest");
    private static final String[] NAMES = {"path", "cycle", "complete", "star", "wheel"};
    private static long seed = 20261119;

    /** A number from 0 to bound - 1. */
    private static int draw(int bound) {
        seed = seed * 6364136223846793005L + 1442695040888963407L;
        return (int) ((seed >>> 33) % bound);
    }

    public static void main(String[] arguments) {
        for (int run = 0; run < 400; run++) {
            compareRun(run, 2 + draw(4), 3 + draw(8), 50);
        }
        for (int run = 400; run < 500; run++) {
            compareRun(run, 6 + draw(3), 11, 12);
        }
        for (int run = 500; run < 540; run++) {
            compareRun(run, 3, 20, 900);
        }
        compareLargeGraphs();
        CHECK.end();
    }

    private static void compareRun(int run, int nodes, int edges, int chips) {
        int start = CHECK.checked();
        ChipGame x = new ChipGame();
        SlowGame slow = new SlowGame();
        CHECK.due(run + ": reset", x.reset(nodes), slow.reset(nodes));
        for (int e = 0; e < edges; e++) {
            int u = draw(nodes);
            int v = draw(nodes);
            CHECK.due(run + ": addEdge", x.addEdge(u, v), slow.addEdge(u, v));
        }
        for (int call = 1; CHECK.checked() - start < 440; call++) {
            compareCall(run + "." + call + ": ", x, slow, edges, chips);
            if (call % 16 == 0) {
                compareStates(run + "." + call + ": then ", x, slow);
            }
        }
        CHECK.that("a run has at most 512 calls", CHECK.checked() - start <= 512);
    }

    private static void compareStates(String at, ChipGame x, SlowGame slow) {
        for (int v = 0; v < 8; v++) {
            CHECK.due(at + "chips(" + v + ")", x.chips(v), slow.chips(v));
        }
        CHECK.due(at + "value(5)", x.value(5), slow.value(5));
    }

    private static void compareCall(String at, ChipGame x, SlowGame slow, int edges, int chips) {
        int kind = draw(100);
        if (kind < 4) {
            changeGraph(at, x, slow, edges);
        } else if (kind < 60) {
            changeState(at, x, slow, chips);
        } else {
            ask(at, x, slow);
        }
    }

    private static void changeGraph(String at, ChipGame x, SlowGame slow, int edges) {
        int u = draw(10) - 1;
        int v = draw(10) - 1;
        switch (draw(12)) {
            case 0, 1, 2 -> CHECK.due(at + "setSink", x.setSink(u), slow.setSink(u));
            case 3, 4, 5 -> CHECK.due(at + "removeEdge", x.removeEdge(u), slow.removeEdge(u));
            case 6 -> readNamed(at, x, slow);
            default -> {
                if (slow.value(1) < edges) {
                    CHECK.due(at + "addEdge", x.addEdge(u, v), slow.addEdge(u, v));
                }
            }
        }
    }

    private static void readNamed(String at, ChipGame x, SlowGame slow) {
        String name = NAMES[draw(5)] + draw(10);
        CHECK.due(at + "clearText", x.clearText(), slow.clearText());
        if (name.equals("complete6") || name.equals("wheel8") || name.equals("wheel7")) {
            return;
        }
        for (int i = 0; i < name.length(); i++) {
            CHECK.due(at + "type", x.type(name.charAt(i)), slow.type(name.charAt(i)));
        }
        CHECK.due(at + "readGraph " + name, x.readGraph(), slow.readGraph());
        for (int e = 0; e < 20; e++) {
            CHECK.due(at + "edge", x.edge(e, false), slow.edge(e, false));
            CHECK.due(at + "edge", x.edge(e, true), slow.edge(e, true));
        }
    }

    private static void changeState(String at, ChipGame x, SlowGame slow, int chips) {
        int v = draw(10) - 1;
        int slot = draw(20) == 0 ? draw(5) - 1 : draw(3);
        int count = draw(5) == 0 ? draw(chips) - 1 : draw(5);
        switch (draw(14)) {
            case 0, 1, 2 -> CHECK.due(at + "setChips", x.setChips(v, count), slow.setChips(v, count));
            case 3, 4 -> CHECK.due(at + "fire", x.fire(v), slow.fire(v));
            case 5 -> CHECK.due(at + "stabilize", x.stabilize(), slow.stabilize());
            case 6 -> CHECK.due(at + "reduce", x.reduce(), slow.reduce());
            case 7 -> CHECK.due(at + "makeRecurrent", x.makeRecurrent(), slow.makeRecurrent());
            case 8 -> CHECK.due(at + "undo", x.undo(), slow.undo());
            case 9, 10 -> CHECK.due(at + "keep", x.keep(slot), slow.keep(slot));
            case 11 -> CHECK.due(at + "load", x.load(slot), slow.load(slot));
            case 12 -> CHECK.due(at + "add", x.add(slot), slow.add(slot));
            default -> {
                int tree = draw(3) == 0 ? draw(1 << 12) : slow.treeAt(draw(20));
                CHECK.due(at + "takeTree", x.takeTree(tree), slow.takeTree(tree));
            }
        }
    }

    private static void ask(String at, ChipGame x, SlowGame slow) {
        int v = draw(10) - 1;
        int k = draw(6) - 2;
        switch (draw(15)) {
            case 0 -> CHECK.due(at + "value", x.value(v), slow.value(v));
            case 1 -> CHECK.due(at + "degree", x.degree(v), slow.degree(v));
            case 2 -> CHECK.due(at + "firings", x.firings(v), slow.firings(v));
            case 3 -> CHECK.due(at + "burnt", x.burnt(v), slow.burnt(v));
            case 4 -> CHECK.due(at + "isSameClass", x.isSameClass(v), slow.isSameClass(v));
            case 5 -> CHECK.due(at + "treeCount", x.treeCount(), slow.treeCount());
            case 6 -> CHECK.due(at + "identity", x.identity(v), slow.identity(v));
            case 7 -> CHECK.due(at + "order", x.order(), slow.order());
            case 8 -> CHECK.due(at + "factor", x.factor(k), slow.factor(k));
            case 9 -> CHECK.due(at + "level", x.level(), slow.level());
            case 10 -> CHECK.due(at + "levelCount", x.levelCount(k), slow.levelCount(k));
            case 11 -> CHECK.due(at + "tree", x.tree(), slow.tree());
            case 12 -> CHECK.due(at + "treeAt", x.treeAt(k * k * 7 - 1), slow.treeAt(k * k * 7 - 1));
            default -> CHECK.due(at + "kind", x.kind(), slow.kind());
        }
    }

    /** Graphs at the document's limits, asked once about each thing. */
    private static void compareLargeGraphs() {
        for (int round = 0; round < 12; round++) {
            ChipGame x = new ChipGame();
            SlowGame slow = new SlowGame();
            x.reset(8);
            slow.reset(8);
            while (slow.value(1) < 20 - round % 3) {
                int u = draw(8);
                int v = draw(8);
                CHECK.due("large addEdge", x.addEdge(u, v), slow.addEdge(u, v));
            }
            int sink = draw(8);
            CHECK.due("large setSink", x.setSink(sink), slow.setSink(sink));
            for (int v = 0; v < 8; v++) {
                int chips = draw(300);
                CHECK.due("large setChips", x.setChips(v, chips), slow.setChips(v, chips));
            }
            askLarge("large " + round + ": ", x, slow);
        }
    }

    private static void askLarge(String at, ChipGame x, SlowGame slow) {
        CHECK.due(at + "treeCount", x.treeCount(), slow.treeCount());
        for (int k = -1; k < 5; k++) {
            CHECK.due(at + "factor " + k, x.factor(k), slow.factor(k));
        }
        int count = (int) x.treeCount();
        int k = count == 0 ? 0 : draw(count);
        CHECK.due(at + "treeAt", x.treeAt(k), slow.treeAt(k));
        CHECK.due(at + "last treeAt", x.treeAt(count - 1), slow.treeAt(count - 1));
        CHECK.due(at + "treeAt behind", x.treeAt(count), slow.treeAt(count));
        int level = draw(6);
        CHECK.due(at + "levelCount " + level, x.levelCount(level), slow.levelCount(level));
        CHECK.due(at + "order", x.order(), slow.order());
        CHECK.due(at + "reduce", x.reduce(), slow.reduce());
        compareStates(at + "reduced ", x, slow);
        CHECK.due(at + "makeRecurrent", x.makeRecurrent(), slow.makeRecurrent());
        compareStates(at + "recurrent ", x, slow);
        CHECK.due(at + "level", x.level(), slow.level());
        int tree = x.tree();
        CHECK.due(at + "tree", tree, slow.tree());
        CHECK.due(at + "takeTree", x.takeTree(tree), slow.takeTree(tree));
        compareStates(at + "by tree ", x, slow);
    }
}
