import java.util.ArrayDeque;

/** The document's sentences on states that name a boundary: the parts State and Burning, and undo(). */
final class ChipsSentencesTest {
    private static final Check CHECK = new Check("ChipsSentencesTest");

    private static void due(String call, long got, long want) {
        CHECK.due(call, got, want);
    }

    private static void sentence(String quote) {
        CHECK.sentence(quote);
    }

    public static void main(String[] arguments) {
        chipsAtFirst();
        canFire();
        chipsGivenByFiring();
        stable();
        orderOfFiring();
        sinkBurnsFirst();
        laterRounds();
        nodeWithoutEdges();
        untilNoFurtherNodeBurns();
        recurrent();
        superstable();
        setFiring();
        reducing();
        setChipsRange();
        setChipsAnswers();
        chipsRefusals();
        fireRefusals();
        fireAnswers();
        stabilizeAnswers();
        stabilizeRefusals();
        firingsChangeNothing();
        firingsRefusals();
        reduceAnswers();
        makeRecurrentAnswers();
        kindSums();
        burntWhileNotStable();
        burntRefusals();
        undoneCalls();
        undoneWhenNothingChanged();
        callsThatAreNotUndone();
        refusedCallsAreNotUndone();
        twelveStates();
        historyWrapsAround();
        historyBecomesEmpty();
        undoAnswers();
        CHECK.end();
    }

    // ---- Description: State

    private static void chipsAtFirst() {
        sentence("Each node but the sink has a number of chips, at first 0.");
        ChipGame x = Check.drawn(8);
        due("sink", x.chips(0), ChipGame.UNKNOWN);
        for (int v = 1; v < 8; v++) {
            due("chips(" + v + ")", x.chips(v), 0);
        }
    }

    private static void canFire() {
        sentence("A node can fire if it is not the sink, its degree is above 0, "
            + "and it has at least as many chips as its degree");
        ChipGame x = new ChipGame();
        Check.fill(x, 1, 0);
        x.setChips(1, 19);
        due("one chip too few", x.fire(1), ChipGame.NOT_POSSIBLE);
        x.setChips(1, 20);
        due("just enough", x.fire(1), 0);
        due("no chips", x.fire(1), ChipGame.NOT_POSSIBLE);
        due("the sink", x.fire(0), ChipGame.UNKNOWN);
        x.reset(3);
        due("degree 0, no chips", x.fire(1), ChipGame.NOT_POSSIBLE);
        x.setChips(1, 1000);
        due("degree 0, many chips", x.fire(1), ChipGame.NOT_POSSIBLE);
        x.addEdge(1, 2);
        due("degree 1", x.fire(1), 999);
    }

    private static void chipsGivenByFiring() {
        sentence("it gives one chip along each edge at it, and chips that come to the sink vanish");
        ChipGame x = Check.drawn(4, 1, 0, 0, 1, 1, 2, 3, 1, 1, 3, 3, 1);
        Check.setAll(x, 7, 0, 0);
        due("fire(1)", x.fire(1), 1);
        due("one along 1-2, three along 1-3", Check.digits(x), 113);
        due("two vanished", x.value(4), 5);
        due("fire(3)", x.fire(3), 0);
        due("none vanished", x.value(4), 5);
    }

    private static void stable() {
        sentence("A state is stable if no node can fire.");
        ChipGame x = Check.drawn(3, 0, 1);
        due("no chips", x.kind(), 1);
        x.setChips(2, 1000);
        due("chips without edges", x.kind(), 1);
        x.setChips(1, 1);
        due("the first node can", x.kind(), 0);
        x.setChips(1, 0);
        x.addEdge(2, 0);
        due("the last node can", x.kind() & 1, 0);
        x.setChips(2, 0);
        due("none can", x.kind() & 1, 1);
    }

    private static void orderOfFiring() {
        sentence("the resulting state, and how often each node fires, do not depend on the order");
        int[][] orders = {{1, 2, 3, 4}, {4, 3, 2, 1}, {2, 4, 1, 3}};
        for (int[] order : orders) {
            ChipGame x = Check.named("wheel5");
            Check.setAll(x, 3, 9, 0, 6);
            int[] due = new int[5];
            for (int v = 1; v < 5; v++) {
                due[v] = x.firings(v);
            }
            int[] fired = new int[5];
            for (int round = 0; round < 40; round++) {
                for (int v : order) {
                    fired[v] += x.fire(v) == ChipGame.NOT_POSSIBLE ? 0 : 1;
                }
            }
            for (int v = 1; v < 5; v++) {
                due("firings(" + v + ")", due[v], fired[v]);
            }
            long byHand = Check.digits(x);
            Check.setAll(x, 3, 9, 0, 6);
            due("stabilize()", x.stabilize(), fired[1] + fired[2] + fired[3] + fired[4]);
            due("state", Check.digits(x), byHand);
        }
    }

    // ---- Description: Burning

    private static void sinkBurnsFirst() {
        sentence("In round 0 the sink burns.");
        ChipGame x = Check.drawn(3);
        due("without edges", x.burnt(0), 0);
        x.setSink(2);
        due("another sink", x.burnt(2), 0);
        x.addEdge(1, 2);
        due("nothing else burns", x.burnt(1), 1);
        due("the sink", x.burnt(2), 0);
    }

    private static void laterRounds() {
        sentence("the number of chips plus the number of edges to nodes that burnt in earlier rounds "
            + "is at least the degree");
        ChipGame x = Check.drawn(3, 0, 1, 1, 2, 2, 1, 1, 2);
        Check.setAll(x, 2, 0);
        due("one chip too few", x.burnt(1), ChipGame.NONE);
        due("so neither this", x.burnt(2), ChipGame.NONE);
        Check.setAll(x, 3, 0);
        due("just enough", x.burnt(1), 1);
        due("edges to a node of round 1", x.burnt(2), 2);
        Check.setAll(x, 3, 3);
        due("not by chips alone in the same round as its neighbour", x.burnt(2), 1);
        x.setSink(2);
        Check.setAll(x, 1, 1);
        due("downwards", x.burnt(1), 1);
        due("chips alone", x.burnt(0), 1);
        Check.setAll(x, 0, 1);
        due("downwards by an edge", x.burnt(0), 2);
    }

    private static void nodeWithoutEdges() {
        sentence("(A node without edges burns in round 1.)");
        ChipGame x = Check.drawn(8, 0, 1);
        due("the next one", x.burnt(2), 1);
        due("the last one", x.burnt(7), 1);
        x.setChips(7, 5);
        due("with chips", x.burnt(7), 1);
        x.setSink(7);
        due("the sink without edges", x.burnt(7), 0);
        due("far from the sink", x.burnt(1), ChipGame.NONE);
    }

    private static void untilNoFurtherNodeBurns() {
        sentence("This goes on until no further node burns.");
        ChipGame x = Check.named("path8");
        Check.setAll(x, 1, 1, 1, 1, 1, 1, 0);
        for (int v = 0; v < 8; v++) {
            due("burnt(" + v + ")", x.burnt(v), v);
        }
        due("all burn", x.kind(), 3);
        x.setChips(6, 0);
        due("before the stop", x.burnt(5), 5);
        due("at the stop", x.burnt(6), ChipGame.NONE);
        due("behind the stop", x.burnt(7), ChipGame.NONE);
        x.setSink(7);
        Check.setAll(x, 0, 1, 1, 1, 1, 1, 1);
        for (int v = 0; v < 8; v++) {
            due("from the other end, burnt(" + v + ")", x.burnt(v), 7 - v);
        }
    }

    private static void recurrent() {
        sentence("A state is recurrent if it is stable, the graph is connected, and all nodes burn.");
        ChipGame x = Check.named("cycle3");
        Check.setAll(x, 1, 0);
        due("all three", x.kind() & 2, 2);
        Check.setAll(x, 2, 0);
        due("not stable", x.kind() & 2, 0);
        due("all burn though", x.burnt(2), 2);
        Check.setAll(x, 0, 0);
        due("none burns", x.kind() & 2, 0);
        ChipGame apart = Check.drawn(3, 0, 1);
        due("not connected", apart.kind() & 2, 0);
        due("all burn though", apart.burnt(2), 1);
        due("level()", apart.level(), ChipGame.NOT_POSSIBLE);
        due("tree()", apart.tree(), ChipGame.NOT_POSSIBLE);
    }

    private static void superstable() {
        sentence("the number of edges to nodes that burnt in earlier rounds is greater than the number of chips");
        ChipGame x = Check.drawn(3, 0, 1, 1, 0, 1, 2, 2, 1, 1, 2);
        Check.setAll(x, 1, 2);
        due("one edge more than chips", x.kind() & 4, 4);
        Check.setAll(x, 2, 2);
        due("as many chips as edges to the sink", x.kind() & 4, 0);
        Check.setAll(x, 1, 3);
        due("as many chips as edges to node 1", x.kind() & 4, 0);
        sentence("A state is superstable if the graph is connected");
        due("two parts", Check.drawn(3, 0, 1).kind() & 4, 0);
        due("no edges", Check.drawn(2).kind() & 4, 0);
    }

    private static void setFiring() {
        sentence("all nodes that do not burn by this rule fire together, "
            + "each giving one chip along each edge that leads out of their set");
        ChipGame x = Check.drawn(4, 0, 1, 1, 2, 2, 3, 2, 3, 3, 0);
        Check.setAll(x, 0, 2, 2);
        due("nodes 2 and 3, then all three", x.reduce(), 2);
        due("edges inside the set carry nothing", Check.digits(x), 10);
        Check.setAll(x, 1, 2, 2);
        due("all three, then nodes 2 and 3", x.reduce(), 2);
        due("state", Check.digits(x), 110);
    }

    private static void reducing() {
        sentence("Reducing means to stabilize, and then to make set firings until the state is superstable.");
        ChipGame x = Check.named("cycle3");
        Check.setAll(x, 2, 0);
        due("stabilizing is enough", x.reduce(), 0);
        due("state", Check.digits(x), 1);
        ChipGame path = Check.named("path8");
        Check.setAll(path, 1, 1, 1, 1, 1, 1, 0);
        due("each set firing moves a chip by one node", path.reduce(), 21);
        due("state", Check.digits(path), 0);
        due("kind", path.kind() & 4, 4);
    }

    // ---- promises 12 to 16

    private static void setChipsRange() {
        sentence("12: chips: 0 to 1000");
        ChipGame x = new ChipGame();
        due("0", x.setChips(1, 0), 0);
        due("1000", x.setChips(1, 1000), 0);
        int[] wrong = {-1, 1001, 2000, 65536, Integer.MIN_VALUE, Integer.MAX_VALUE};
        for (int chips : wrong) {
            due("setChips(1, " + chips + ")", x.setChips(1, chips), ChipGame.BAD_VALUE);
            due("chips", x.chips(1), 1000);
        }
        due("recorded", x.value(5), 2);
    }

    private static void setChipsAnswers() {
        sentence("12: Returns the previous number; UNKNOWN; BAD_VALUE.");
        ChipGame x = new ChipGame();
        x.setChips(1, 1000);
        x.keep(0);
        x.add(0);
        due("more than can be set", x.setChips(1, 5), 2000);
        due("fewer", x.setChips(1, 5), 5);
        sentence("12: node: a node, not the sink");
        int[] wrong = {0, -1, 2, 8, 256, Integer.MIN_VALUE, Integer.MAX_VALUE};
        for (int node : wrong) {
            due("setChips(" + node + ", 1)", x.setChips(node, 1), ChipGame.UNKNOWN);
        }
        x.setSink(1);
        due("the new sink", x.setChips(1, 1), ChipGame.UNKNOWN);
        due("the old sink", x.setChips(0, 1), 0);
    }

    private static void chipsRefusals() {
        sentence("13: Returns its number of chips; UNKNOWN.");
        ChipGame x = Check.named("star8");
        x.setChips(7, 1000);
        due("last node", x.chips(7), 1000);
        int[] wrong = {0, -1, 8, 9, 256, Integer.MIN_VALUE, Integer.MAX_VALUE};
        for (int node : wrong) {
            due("chips(" + node + ")", x.chips(node), ChipGame.UNKNOWN);
        }
        x.reset(7);
        due("node n", x.chips(7), ChipGame.UNKNOWN);
    }

    private static void fireRefusals() {
        sentence("14: UNKNOWN; NOT_POSSIBLE if it cannot fire.");
        ChipGame x = Check.named("path3");
        Check.setAll(x, 1, 0);
        int[] wrong = {0, -1, 3, 8, 256, Integer.MIN_VALUE, Integer.MAX_VALUE};
        for (int node : wrong) {
            due("fire(" + node + ")", x.fire(node), ChipGame.UNKNOWN);
        }
        due("one chip too few", x.fire(1), ChipGame.NOT_POSSIBLE);
        due("no chips", x.fire(2), ChipGame.NOT_POSSIBLE);
        due("state", Check.digits(x), 10);
        due("recorded", x.value(5), 2);
    }

    private static void fireAnswers() {
        sentence("14: Returns its number of chips then");
        ChipGame x = Check.named("path3");
        Check.setAll(x, 5, 1);
        due("first", x.fire(1), 3);
        due("second", x.fire(1), 1);
        due("to 0", x.fire(2), 2);
        due("of three", Check.digits(x), 22);
        ChipGame apart = Check.drawn(4, 2, 3);
        apart.setChips(3, 1);
        due("in a graph that is not connected", apart.fire(3), 0);
    }

    private static void stabilizeAnswers() {
        sentence("15: Returns the number of firings");
        ChipGame x = new ChipGame();
        due("stable", x.stabilize(), 0);
        x.setChips(1, 1);
        due("one", x.stabilize(), 1);
        x.setChips(1, 1000);
        due("a thousand", x.stabilize(), 1000);
        due("chips", x.chips(1), 0);
        ChipGame far = Check.named("path8");
        far.setChips(7, 1000);
        far.keep(0);
        far.add(0);
        due("from the far end", far.stabilize(), 55888);
        due("state", Check.digits(far), 1111110);
    }

    private static void stabilizeRefusals() {
        sentence("15: NOT_CONNECTED");
        ChipGame x = Check.drawn(3, 1, 2);
        due("stable", x.stabilize(), ChipGame.NOT_CONNECTED);
        x.setChips(1, 5);
        due("not stable", x.stabilize(), ChipGame.NOT_CONNECTED);
        due("chips", Check.digits(x), 50);
        x.addEdge(2, 0);
        due("connected", x.stabilize(), 13);
        due("state", Check.digits(x), 1);
    }

    private static void firingsChangeNothing() {
        sentence("16: Nothing changes.");
        ChipGame x = Check.named("path3");
        Check.setAll(x, 4, 0);
        due("firings(1)", x.firings(1), 3);
        due("firings(2)", x.firings(2), 3);
        due("state", Check.digits(x), 40);
        due("recorded", x.value(5), 2);
        due("firings(1) again", x.firings(1), 3);
    }

    private static void firingsRefusals() {
        sentence("16: Returns the number; UNKNOWN; NOT_CONNECTED.");
        ChipGame x = Check.named("path3");
        due("stable", x.firings(2), 0);
        int[] wrong = {0, -1, 3, 8, 256, Integer.MIN_VALUE, Integer.MAX_VALUE};
        for (int node : wrong) {
            due("firings(" + node + ")", x.firings(node), ChipGame.UNKNOWN);
        }
        x.removeEdge(0);
        due("stable, not connected", x.firings(2), ChipGame.NOT_CONNECTED);
        due("unknown, not connected", x.firings(3), ChipGame.UNKNOWN);
        due("sink, not connected", x.firings(0), ChipGame.UNKNOWN);
    }

    // ---- promises 17 to 20

    private static void reduceAnswers() {
        sentence("17: Returns the number of set firings; NOT_CONNECTED.");
        ChipGame x = Check.named("cycle4");
        due("superstable", x.reduce(), 0);
        Check.setAll(x, 1, 0, 1);
        due("one", x.reduce(), 1);
        due("state", Check.digits(x), 0);
        due("recorded", x.value(5), 5);
        x.removeEdge(0);
        x.removeEdge(0);
        due("superstable, not connected", x.reduce(), ChipGame.NOT_CONNECTED);
        x.setChips(1, 4);
        due("not connected", x.reduce(), ChipGame.NOT_CONNECTED);
        due("state", Check.digits(x), 400);
        due("recorded", x.value(5), 1);
    }

    private static void makeRecurrentAnswers() {
        sentence("18: Returns 1 if this changes it, otherwise 0; NOT_CONNECTED.");
        ChipGame x = new ChipGame();
        due("recurrent without chips", x.makeRecurrent(), 0);
        x.setChips(1, 1);
        due("one chip too many", x.makeRecurrent(), 1);
        due("chips", x.chips(1), 0);
        x.setSink(1);
        due("node 0 without chips", x.makeRecurrent(), 0);
        x.setChips(0, 1);
        due("one chip too many on node 0", x.makeRecurrent(), 1);
        ChipGame cycle = Check.named("cycle3");
        due("no chips", cycle.makeRecurrent(), 1);
        due("state", Check.digits(cycle), 11);
        due("again", cycle.makeRecurrent(), 0);
        due("recorded", cycle.value(5), 2);
        ChipGame apart = Check.drawn(3, 1, 2);
        due("not connected", apart.makeRecurrent(), ChipGame.NOT_CONNECTED);
        due("state", Check.digits(apart), 0);
        due("recorded", apart.value(5), 0);
    }

    private static void kindSums() {
        sentence("19: the sum of 1 if it is stable, 2 if it is recurrent, and 4 if it is superstable");
        due("all of it", new ChipGame().kind(), 7);
        ChipGame x = Check.named("cycle3");
        kindOf(x, 5, 0, 0);
        kindOf(x, 3, 1, 1);
        kindOf(x, 7, 1, 0);
        kindOf(x, 7, 0, 1);
        kindOf(x, 0, 2, 0);
        kindOf(x, 0, 0, 2);
        ChipGame y = Check.drawn(3, 0, 1, 1, 2, 2, 1);
        kindOf(y, 1, 1, 0);
        kindOf(y, 3, 2, 0);
        kindOf(y, 5, 0, 1);
    }

    private static void kindOf(ChipGame x, int want, int... chips) {
        Check.setAll(x, chips);
        due("kind of " + Check.digits(x), x.kind(), want);
    }

    private static void burntWhileNotStable() {
        sentence("20: the round in which it burns (by the first rule, whether the state is stable or not)");
        ChipGame x = Check.named("path4");
        Check.setAll(x, 0, 0, 1000);
        due("many chips", x.burnt(3), 1);
        due("its neighbour", x.burnt(2), ChipGame.NONE);
        Check.setAll(x, 0, 1, 1);
        due("its neighbour", x.burnt(2), 2);
        due("by the first rule", x.burnt(1), 3);
        Check.setAll(x, 0, 0, 0);
        due("superstable", x.burnt(1), ChipGame.NONE);
        due("state", Check.digits(x), 0);
        due("recorded", x.value(5), 9);
    }

    private static void burntRefusals() {
        sentence("20: UNKNOWN; NONE if it does not burn.");
        ChipGame x = Check.named("path3");
        int[] wrong = {-1, 3, 8, 256, Integer.MIN_VALUE, Integer.MAX_VALUE};
        for (int node : wrong) {
            due("burnt(" + node + ")", x.burnt(node), ChipGame.UNKNOWN);
        }
        due("the sink", x.burnt(0), 0);
        due("does not burn", x.burnt(2), ChipGame.NONE);
    }

    // ---- promise 21

    private static void undoneCalls() {
        sentence("21: Undoes the latest of the calls setChips(), fire(), stabilize(), reduce(), "
            + "makeRecurrent(), load(), add() and takeTree()");
        ChipGame x = Check.named("cycle4");
        Check.setAll(x, 1, 0, 1);
        x.keep(0);
        x.setChips(2, 3);
        undone(x, "setChips()", 101);
        x.setChips(2, 3);
        x.fire(2);
        undone(x, "fire()", 131);
        x.stabilize();
        undone(x, "stabilize()", 131);
        x.reduce();
        undone(x, "reduce()", 131);
        x.makeRecurrent();
        undone(x, "makeRecurrent()", 131);
        x.load(0);
        undone(x, "load()", 131);
        x.add(0);
        undone(x, "add()", 131);
        x.takeTree(7);
        undone(x, "takeTree()", 131);
    }

    private static void undone(ChipGame x, String call, long digits) {
        int more = x.value(5) - 1;
        due("changed by " + call, Check.digits(x) == digits ? 1 : 0, 0);
        due("undo() of " + call, x.undo(), more);
        due("state before " + call, Check.digits(x), digits);
    }

    private static void undoneWhenNothingChanged() {
        sentence("21: that reported no error (also if it changed nothing)");
        ChipGame x = Check.named("path3");
        x.setChips(1, 0);
        due("setChips() to the same number", x.value(5), 1);
        x.stabilize();
        due("stabilize() of a stable state", x.value(5), 2);
        x.reduce();
        due("reduce() of a superstable state", x.value(5), 3);
        x.keep(0);
        x.load(0);
        due("load() of the same state", x.value(5), 4);
        x.add(0);
        due("add() of no chips", x.value(5), 5);
        x.takeTree(3);
        due("takeTree()", x.value(5), 6);
        x.takeTree(3);
        due("takeTree() of the same tree", x.value(5), 7);
        x.makeRecurrent();
        due("makeRecurrent() of a recurrent state", x.value(5), 8);
        for (int left = 7; left >= 0; left--) {
            due("undo()", x.undo(), left);
        }
        due("state", Check.digits(x), 0);
    }

    private static void callsThatAreNotUndone() {
        sentence("21: the latest of the calls setChips(), fire(), stabilize() ...: no other calls");
        ChipGame x = Check.named("cycle3");
        Check.setAll(x, 4, 5);
        x.keep(1);
        x.type('a');
        x.clearText();
        x.setSink(0);
        x.value(4);
        x.degree(1);
        x.edge(0, true);
        x.chips(1);
        x.firings(1);
        x.kind();
        x.burnt(1);
        x.isSameClass(1);
        x.treeCount();
        x.identity(1);
        x.order();
        x.factor(0);
        x.level();
        x.levelCount(0);
        x.tree();
        x.treeAt(0);
        due("the state stays", Check.digits(x), 45);
        due("undoable", x.value(5), 2);
        due("undo()", x.undo(), 1);
        due("state", Check.digits(x), 40);
        due("the slot stays", x.load(1), 9);
    }

    private static void refusedCallsAreNotUndone() {
        sentence("21: that reported no error");
        ChipGame x = Check.drawn(3, 0, 1);
        Check.setAll(x, 0, 5);
        x.setChips(0, 1);
        x.setChips(1, 1001);
        x.fire(1);
        x.stabilize();
        x.reduce();
        x.makeRecurrent();
        x.load(1);
        x.add(1);
        x.load(3);
        x.add(3);
        x.takeTree(1);
        x.reset(1);
        x.addEdge(1, 1);
        x.removeEdge(1);
        x.setSink(3);
        x.readGraph();
        due("undoable", x.value(5), 2);
        due("undo()", x.undo(), 1);
        due("state", Check.digits(x), 0);
    }

    private static void twelveStates() {
        sentence("21: A history of at most 12 states is kept; when one more is recorded, the oldest one is dropped.");
        ChipGame x = new ChipGame();
        for (int chips = 1; chips <= 12; chips++) {
            x.setChips(1, chips);
        }
        due("undoable", x.value(5), 12);
        x.setChips(1, 13);
        due("undoable", x.value(5), 12);
        for (int left = 11; left >= 0; left--) {
            due("undo()", x.undo(), left);
            due("chips", x.chips(1), left + 1);
        }
        due("the thirteenth undo()", x.undo(), ChipGame.NONE);
        due("chips", x.chips(1), 1);
        ChipGame y = new ChipGame();
        for (int chips = 1; chips <= 12; chips++) {
            y.setChips(1, chips);
        }
        for (int left = 11; left >= 0; left--) {
            due("undo() of twelve", y.undo(), left);
        }
        due("chips before all of them", y.chips(1), 0);
    }

    private static void historyWrapsAround() {
        sentence("21: the oldest one is dropped, again and again");
        ChipGame x = new ChipGame();
        ArrayDeque<Integer> states = new ArrayDeque<>();
        int now = 0;
        for (int round = 1; round <= 9; round++) {
            for (int call = 0; call < 2 * round + 1; call++) {
                states.addLast(now);
                now = 20 * round + call;
                x.setChips(1, now);
                if (states.size() > 12) {
                    states.removeFirst();
                }
            }
            for (int call = 0; call < round + 3 && !states.isEmpty(); call++) {
                now = states.removeLast();
                due("undo()", x.undo(), states.size());
                due("chips", x.chips(1), now);
            }
        }
    }

    private static void historyBecomesEmpty() {
        sentence("21: It becomes empty whenever the slots do.");
        for (int way = 0; way < 6; way++) {
            ChipGame x = Check.named("cycle4");
            Check.setAll(x, 1, 2, 3);
            x.keep(2);
            int undoable = way == 5 ? 3 : 0;
            changeGraph(x, way);
            due("undoable, way " + way, x.value(5), undoable);
            due("undo(), way " + way, x.undo(), way == 5 ? 2 : ChipGame.NONE);
            due("the slot is empty, way " + way, x.keep(2), way == 5 ? 0 : 1);
        }
    }

    private static void changeGraph(ChipGame x, int way) {
        switch (way) {
            case 0 -> x.reset(4);
            case 1 -> x.addEdge(1, 3);
            case 2 -> x.removeEdge(3);
            case 3 -> x.setSink(1);
            case 4 -> x.readGraph();
            default -> x.setSink(0);
        }
    }

    private static void undoAnswers() {
        sentence("21: Returns how many more can be undone; NONE if there is none.");
        ChipGame x = new ChipGame();
        due("new", x.undo(), ChipGame.NONE);
        x.setChips(1, 3);
        due("the last one", x.undo(), 0);
        due("none", x.undo(), ChipGame.NONE);
        due("none again", x.undo(), ChipGame.NONE);
        due("chips", x.chips(1), 0);
        x.setChips(1, 4);
        x.setChips(1, 5);
        due("one of two", x.undo(), 1);
        due("chips", x.chips(1), 4);
        x.setChips(1, 6);
        due("undoable", x.value(5), 2);
    }
}
