import java.util.function.Supplier;

/**
 * The document's part Errors, method by method. Of two objects that are made in the same way one
 * gets a call that is refused; a long row of further calls must then answer the same on both.
 */
final class ErrorsTest {
    private static final Check CHECK = new Check("ErrorsTest");
    private static final int UNKNOWN = ChipGame.UNKNOWN;
    private static final int BAD_VALUE = ChipGame.BAD_VALUE;
    private static final int NOT_CONNECTED = ChipGame.NOT_CONNECTED;
    private static final int NOT_POSSIBLE = ChipGame.NOT_POSSIBLE;
    private static final int FULL = ChipGame.FULL;
    private static final int BAD_TEXT = ChipGame.BAD_TEXT;
    private static final int NONE = ChipGame.NONE;
    private static final long NO_VALUE = ChipGame.NO_VALUE;

    private interface Call {
        long on(ChipGame x);
    }

    public static void main(String[] arguments) {
        constants();
        CHECK.sentence("A call that reports an error or NONE changes nothing.");
        refusedOfTheGraph();
        refusedOfTheText();
        refusedOfTheState();
        refusedWithoutConnection();
        refusedOfSlots();
        refusedOfTheGroup();
        nothingThere();
        CHECK.sentence("Where several errors can apply, the order of the @return line is the order of the checks.");
        orderOfChecks();
        CHECK.sentence("NONE is returned only if no error applies.");
        noneOnlyWithoutError();
        CHECK.sentence("Methods that return a long return NO_VALUE for every error.");
        noValue();
        CHECK.end();
    }

    private static void constants() {
        CHECK.sentence("The constants");
        CHECK.due("UNKNOWN", UNKNOWN, -10001);
        CHECK.due("BAD_VALUE", BAD_VALUE, -10002);
        CHECK.due("NOT_CONNECTED", NOT_CONNECTED, -10003);
        CHECK.due("NOT_POSSIBLE", NOT_POSSIBLE, -10004);
        CHECK.due("FULL", FULL, -10005);
        CHECK.due("BAD_TEXT", BAD_TEXT, -10006);
        CHECK.due("NONE", NONE, -10007);
        CHECK.due("NO_VALUE", NO_VALUE, Long.MIN_VALUE);
    }

    // ---- objects to call

    /** Connected, with another sink, chips, a history and two of the slots filled. */
    private static ChipGame busy() {
        ChipGame x = Check.named("wheel5");
        x.setSink(2);
        Check.setAll(x, 3, 1, 0, 4);
        x.keep(0);
        x.fire(4);
        x.keep(2);
        x.setChips(1, 2);
        return x;
    }

    /** Not connected: a path of three nodes, and two nodes joined by two edges. */
    private static ChipGame apart() {
        ChipGame x = Check.drawn(5, 0, 1, 1, 2, 3, 4, 4, 3);
        Check.typeText(x, "star6");
        Check.setAll(x, 1, 0, 7, 1);
        x.keep(1);
        x.fire(3);
        return x;
    }

    private static ChipGame ofTwentyEdges() {
        ChipGame x = Check.drawn(3, 0, 2);
        Check.fill(x, 1, 2);
        Check.setAll(x, 25, 30);
        x.keep(0);
        x.fire(1);
        return x;
    }

    private static ChipGame withFullText() {
        ChipGame x = busy();
        Check.typeText(x, "path23");
        return x;
    }

    /** A node with more chips than can be added, and a slot in which another node has some. */
    private static ChipGame withManyChips() {
        ChipGame x = Check.named("path3");
        Check.setAll(x, 10, 1000);
        x.keep(1);
        x.add(1);
        x.fire(1);
        return x;
    }

    /** A history of twelve states, so that one more would drop the oldest one. */
    private static ChipGame withFullHistory() {
        ChipGame x = Check.named("cycle3");
        for (int chips = 0; chips < 14; chips++) {
            x.setChips(1 + chips % 2, chips % 5);
        }
        x.setChips(1, 1);
        x.setChips(2, 2);
        return x;
    }

    // ---- the comparison

    private static void refused(String call, Supplier<ChipGame> made, Call refusal, long want) {
        ChipGame x = made.get();
        ChipGame twin = made.get();
        CHECK.due(call, refusal.on(x), want);
        String got = answers(x);
        boolean same = got.equals(answers(twin));
        CHECK.that(call + " changes nothing", same);
    }

    /** What an object answers to calls, some 300, that together show all that it holds. */
    private static String answers(ChipGame x) {
        StringBuilder all = new StringBuilder();
        addGraph(all, x);
        addState(all, x);
        for (int undone = 0; undone < 13; undone++) {
            all.append(" undo ").append(x.undo());
            addChips(all, x);
        }
        for (int slot = 0; slot < 3; slot++) {
            all.append(" load ").append(x.load(slot));
            addChips(all, x);
        }
        for (int taken = 0; taken < 13; taken++) {
            all.append(" text ").append(x.readGraph()).append(' ').append(x.value(0)).append(' ').append(x.type('5'));
        }
        return all.append(' ').append(x.clearText()).toString();
    }

    private static void addGraph(StringBuilder all, ChipGame x) {
        for (int what = 0; what < 7; what++) {
            all.append(' ').append(x.value(what));
        }
        for (int e = 0; e < 20; e++) {
            all.append(' ').append(x.edge(e, false)).append('-').append(x.edge(e, true));
        }
        for (int v = 0; v < 8; v++) {
            all.append(' ').append(x.degree(v));
        }
    }

    private static void addChips(StringBuilder all, ChipGame x) {
        for (int v = 0; v < 8; v++) {
            all.append(' ').append(x.chips(v));
        }
    }

    private static void addState(StringBuilder all, ChipGame x) {
        addChips(all, x);
        for (int v = 0; v < 8; v++) {
            all.append(' ').append(x.firings(v)).append(' ').append(x.burnt(v)).append(' ').append(x.identity(v));
        }
        all.append(' ').append(x.kind()).append(' ').append(x.order()).append(' ').append(x.level());
        all.append(' ').append(x.tree()).append(' ').append(x.treeCount()).append(' ').append(x.factor(0));
    }

    // ---- each error of each method

    private static void refusedOfTheGraph() {
        refused("reset(1)", ErrorsTest::busy, x -> x.reset(1), BAD_VALUE);
        refused("reset(9)", ErrorsTest::busy, x -> x.reset(9), BAD_VALUE);
        refused("addEdge(5, 0)", ErrorsTest::busy, x -> x.addEdge(5, 0), UNKNOWN);
        refused("addEdge(0, -1)", ErrorsTest::busy, x -> x.addEdge(0, -1), UNKNOWN);
        refused("addEdge(3, 3)", ErrorsTest::busy, x -> x.addEdge(3, 3), BAD_VALUE);
        refused("addEdge(0, 1)", ErrorsTest::ofTwentyEdges, x -> x.addEdge(0, 1), FULL);
        refused("removeEdge(8)", ErrorsTest::busy, x -> x.removeEdge(8), UNKNOWN);
        refused("removeEdge(-1)", ErrorsTest::busy, x -> x.removeEdge(-1), UNKNOWN);
        refused("setSink(5)", ErrorsTest::busy, x -> x.setSink(5), UNKNOWN);
        refused("setSink(-1)", ErrorsTest::busy, x -> x.setSink(-1), UNKNOWN);
        refused("value(7)", ErrorsTest::busy, x -> x.value(7), BAD_VALUE);
        refused("degree(5)", ErrorsTest::busy, x -> x.degree(5), UNKNOWN);
        refused("edge(8, true)", ErrorsTest::busy, x -> x.edge(8, true), UNKNOWN);
    }

    private static void refusedOfTheText() {
        refused("type('5')", ErrorsTest::withFullText, x -> x.type('5'), FULL);
        refused("readGraph()", ErrorsTest::withFullText, x -> x.readGraph(), BAD_TEXT);
        refused("readGraph()", ChipGame::new, x -> x.readGraph(), BAD_TEXT);
    }

    private static void refusedOfTheState() {
        refused("setChips(2, 1)", ErrorsTest::busy, x -> x.setChips(2, 1), UNKNOWN);
        refused("setChips(5, 1)", ErrorsTest::busy, x -> x.setChips(5, 1), UNKNOWN);
        refused("setChips(1, -1)", ErrorsTest::busy, x -> x.setChips(1, -1), BAD_VALUE);
        refused("setChips(1, 1001)", ErrorsTest::withFullHistory, x -> x.setChips(1, 1001), BAD_VALUE);
        refused("chips(2)", ErrorsTest::busy, x -> x.chips(2), UNKNOWN);
        refused("fire(2)", ErrorsTest::busy, x -> x.fire(2), UNKNOWN);
        refused("fire(1)", ErrorsTest::busy, x -> x.fire(1), NOT_POSSIBLE);
        refused("fire(1)", ErrorsTest::withFullHistory, x -> x.fire(1), NOT_POSSIBLE);
        refused("firings(2)", ErrorsTest::busy, x -> x.firings(2), UNKNOWN);
        refused("burnt(5)", ErrorsTest::busy, x -> x.burnt(5), UNKNOWN);
        refused("level()", ErrorsTest::busy, x -> x.level(), NOT_POSSIBLE);
        refused("tree()", ErrorsTest::busy, x -> x.tree(), NOT_POSSIBLE);
        refused("takeTree(3)", ErrorsTest::busy, x -> x.takeTree(3), BAD_VALUE);
        refused("takeTree(1)", ErrorsTest::withFullHistory, x -> x.takeTree(1), BAD_VALUE);
    }

    private static void refusedWithoutConnection() {
        refused("stabilize()", ErrorsTest::apart, x -> x.stabilize(), NOT_CONNECTED);
        refused("firings(3)", ErrorsTest::apart, x -> x.firings(3), NOT_CONNECTED);
        refused("reduce()", ErrorsTest::apart, x -> x.reduce(), NOT_CONNECTED);
        refused("makeRecurrent()", ErrorsTest::apart, x -> x.makeRecurrent(), NOT_CONNECTED);
        refused("isSameClass(1)", ErrorsTest::apart, x -> x.isSameClass(1), NOT_CONNECTED);
        refused("identity(1)", ErrorsTest::apart, x -> x.identity(1), NOT_CONNECTED);
        refused("order()", ErrorsTest::apart, x -> x.order(), NOT_CONNECTED);
        refused("levelCount(0)", ErrorsTest::apart, x -> x.levelCount(0), NOT_CONNECTED);
        refused("level()", ErrorsTest::apart, x -> x.level(), NOT_POSSIBLE);
        refused("tree()", ErrorsTest::apart, x -> x.tree(), NOT_POSSIBLE);
        refused("takeTree(15)", ErrorsTest::apart, x -> x.takeTree(15), BAD_VALUE);
    }

    private static void refusedOfSlots() {
        int[] wrong = {-1, 3};
        for (int slot : wrong) {
            refused("keep(" + slot + ")", ErrorsTest::busy, x -> x.keep(slot), UNKNOWN);
            refused("load(" + slot + ")", ErrorsTest::busy, x -> x.load(slot), UNKNOWN);
            refused("add(" + slot + ")", ErrorsTest::busy, x -> x.add(slot), UNKNOWN);
            refused("isSameClass(" + slot + ")", ErrorsTest::busy, x -> x.isSameClass(slot), UNKNOWN);
        }
        refused("load(1)", ErrorsTest::busy, x -> x.load(1), NOT_POSSIBLE);
        refused("load(0)", ErrorsTest::withFullHistory, x -> x.load(0), NOT_POSSIBLE);
        refused("add(1)", ErrorsTest::busy, x -> x.add(1), NOT_POSSIBLE);
        refused("isSameClass(1)", ErrorsTest::busy, x -> x.isSameClass(1), NOT_POSSIBLE);
        refused("add(1)", ErrorsTest::withManyChips, x -> x.add(1), FULL);
    }

    private static void refusedOfTheGroup() {
        refused("identity(2)", ErrorsTest::busy, x -> x.identity(2), UNKNOWN);
        refused("factor(2)", ErrorsTest::busy, x -> x.factor(2), NO_VALUE);
        refused("factor(-2)", ErrorsTest::busy, x -> x.factor(-2), NO_VALUE);
        refused("factor(-1)", ErrorsTest::apart, x -> x.factor(-1), NO_VALUE);
        refused("levelCount(-1)", ErrorsTest::busy, x -> x.levelCount(-1), BAD_VALUE);
        refused("treeAt(-1)", ErrorsTest::busy, x -> x.treeAt(-1), BAD_VALUE);
    }

    private static void nothingThere() {
        refused("undo()", ChipGame::new, x -> x.undo(), NONE);
        refused("undo()", () -> keptOnly(), x -> x.undo(), NONE);
        refused("burnt(2)", () -> Check.named("path3"), x -> x.burnt(2), NONE);
        refused("treeAt(45)", ErrorsTest::busy, x -> x.treeAt(45), NONE);
        refused("treeAt(0)", ErrorsTest::apart, x -> x.treeAt(0), NONE);
    }

    private static ChipGame keptOnly() {
        ChipGame x = Check.named("path3");
        x.setChips(2, 6);
        x.addEdge(0, 2);
        x.keep(1);
        return x;
    }

    // ---- two errors at once

    private static void orderOfChecks() {
        refused("addEdge(3, 3): no node, and full", ErrorsTest::ofTwentyEdges, x -> x.addEdge(3, 3), UNKNOWN);
        refused("addEdge(3, 1): no node, and full", ErrorsTest::ofTwentyEdges, x -> x.addEdge(3, 1), UNKNOWN);
        refused("addEdge(5, 5): no node, and the same", ErrorsTest::busy, x -> x.addEdge(5, 5), UNKNOWN);
        refused("addEdge(1, 1): the same, and full", ErrorsTest::ofTwentyEdges, x -> x.addEdge(1, 1), BAD_VALUE);
        refused("setChips(2, -1): sink, and too few", ErrorsTest::busy, x -> x.setChips(2, -1), UNKNOWN);
        refused("setChips(5, 1001): no node, and too many", ErrorsTest::busy, x -> x.setChips(5, 1001), UNKNOWN);
        refused("fire(0): sink, and no chips", ErrorsTest::apart, x -> x.fire(0), UNKNOWN);
        refused("firings(0): sink, not connected", ErrorsTest::apart, x -> x.firings(0), UNKNOWN);
        refused("firings(5): no node, not connected", ErrorsTest::apart, x -> x.firings(5), UNKNOWN);
        refused("add(0): empty, and full", ErrorsTest::withManyChips, x -> x.add(0), NOT_POSSIBLE);
        refused("add(3): no slot, and full", ErrorsTest::withManyChips, x -> x.add(3), UNKNOWN);
        refused("isSameClass(0): empty, not connected", ErrorsTest::apart, x -> x.isSameClass(0), NOT_POSSIBLE);
        refused("isSameClass(3): no slot, not connected", ErrorsTest::apart, x -> x.isSameClass(3), UNKNOWN);
        refused("identity(0): sink, not connected", ErrorsTest::apart, x -> x.identity(0), UNKNOWN);
        refused("identity(5): no node, not connected", ErrorsTest::apart, x -> x.identity(5), UNKNOWN);
        refused("levelCount(-1): below, not connected", ErrorsTest::apart, x -> x.levelCount(-1), BAD_VALUE);
    }

    private static void noneOnlyWithoutError() {
        refused("burnt(5): no node", ErrorsTest::apart, x -> x.burnt(5), UNKNOWN);
        refused("burnt(-1): no node", ErrorsTest::apart, x -> x.burnt(-1), UNKNOWN);
        refused("treeAt(-1): no trees", ErrorsTest::apart, x -> x.treeAt(-1), BAD_VALUE);
        refused("treeAt(least): no trees", ErrorsTest::apart, x -> x.treeAt(Integer.MIN_VALUE), BAD_VALUE);
    }

    private static void noValue() {
        refused("factor(-2): not connected", ErrorsTest::apart, x -> x.factor(-2), NO_VALUE);
        refused("factor(0): not connected", ErrorsTest::apart, x -> x.factor(0), NO_VALUE);
        refused("factor(9): not so many", ErrorsTest::busy, x -> x.factor(9), NO_VALUE);
        refused("treeCount(): no error", ErrorsTest::apart, x -> x.treeCount(), 0);
    }
}
