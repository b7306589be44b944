/** The document's sentences on slots that name a boundary: the part Slots, and keep() to isSameClass(). */
final class SlotsSentencesTest {
    private static final Check CHECK = new Check("SlotsSentencesTest");
    private static final int[] NO_SLOTS = {-1, 3, 4, 256, Integer.MIN_VALUE, Integer.MAX_VALUE};

    private static void due(String call, long got, long want) {
        CHECK.due(call, got, want);
    }

    private static void sentence(String quote) {
        CHECK.sentence(quote);
    }

    public static void main(String[] arguments) {
        threeSlots();
        emptyAtFirst();
        emptyWhenTheGraphChanges();
        emptyWhenTheSinkChanges();
        emptyByResetAndReadGraph();
        notEmptiedByRefusedCalls();
        notEmptiedByOtherCalls();
        keepAnswers();
        keepRefusals();
        keepsTheStateOfThen();
        loadAnswers();
        loadRefusals();
        addWithoutStabilizing();
        addAnswers();
        addRefusals();
        addUpToTwoThousand();
        addAboveTwoThousandByFiring();
        sameClassAnswers();
        sameClassWhetherTheyCanFireOrNot();
        sameClassRefusals();
        CHECK.end();
    }

    private static int filled(ChipGame x) {
        int filled = 0;
        for (int slot = 0; slot < 3; slot++) {
            filled += x.load(slot) == ChipGame.NOT_POSSIBLE ? 0 : 1 << slot;
        }
        return filled;
    }

    /** A cycle of four nodes, its text typed, with a state in each slot. */
    private static ChipGame withFullSlots() {
        ChipGame x = Check.named("cycle4");
        Check.setAll(x, 1, 2, 3);
        for (int slot = 0; slot < 3; slot++) {
            x.keep(slot);
        }
        return x;
    }

    // ---- Description: Slots

    private static void threeSlots() {
        sentence("There are 3 slots, numbered from 0, each of which is empty or keeps a state.");
        ChipGame x = Check.named("path4");
        for (int slot = 0; slot < 3; slot++) {
            Check.setAll(x, slot, slot + 1, slot + 2);
            due("keep(" + slot + ")", x.keep(slot), 1);
        }
        due("keep(-1)", x.keep(-1), ChipGame.UNKNOWN);
        due("keep(3)", x.keep(3), ChipGame.UNKNOWN);
        for (int slot = 2; slot >= 0; slot--) {
            due("load(" + slot + ")", x.load(slot), 3 * slot + 3);
            due("state", Check.digits(x), slot * 111 + 12);
        }
    }

    private static void emptyAtFirst() {
        sentence("each of which is empty or keeps a state");
        ChipGame x = new ChipGame();
        for (int slot = 0; slot < 3; slot++) {
            due("load(" + slot + ")", x.load(slot), ChipGame.NOT_POSSIBLE);
            due("add(" + slot + ")", x.add(slot), ChipGame.NOT_POSSIBLE);
            due("isSameClass(" + slot + ")", x.isSameClass(slot), ChipGame.NOT_POSSIBLE);
        }
        x.keep(1);
        due("one is filled", filled(x), 2);
    }

    private static void emptyWhenTheGraphChanges() {
        sentence("They become empty whenever the graph ... changes");
        ChipGame x = withFullSlots();
        due("before", filled(x), 7);
        x.addEdge(1, 3);
        due("addEdge()", filled(x), 0);
        ChipGame y = withFullSlots();
        y.removeEdge(0);
        due("removeEdge()", filled(y), 0);
        ChipGame z = withFullSlots();
        z.addEdge(1, 3);
        z.removeEdge(4);
        due("the graph is as before", filled(z), 0);
        due("so are the chips", Check.digits(z), 123);
    }

    private static void emptyWhenTheSinkChanges() {
        sentence("They become empty whenever ... the sink changes");
        ChipGame x = withFullSlots();
        x.setSink(0);
        due("the same sink", filled(x), 7);
        x.setSink(2);
        due("another sink", filled(x), 0);
        x.keep(0);
        x.setSink(0);
        due("back", filled(x), 0);
    }

    private static void emptyByResetAndReadGraph() {
        sentence("and always by reset() and readGraph()");
        ChipGame x = withFullSlots();
        x.readGraph();
        due("readGraph() of the same graph", filled(x), 0);
        ChipGame y = Check.drawn(3);
        for (int slot = 0; slot < 3; slot++) {
            y.keep(slot);
        }
        y.reset(3);
        due("reset() to the same graph", filled(y), 0);
        ChipGame z = withFullSlots();
        z.reset(8);
        due("reset() to another graph", filled(z), 0);
    }

    private static void notEmptiedByRefusedCalls() {
        sentence("A call that reports an error or NONE changes nothing.");
        ChipGame x = withFullSlots();
        x.type('4');
        x.reset(9);
        x.addEdge(1, 1);
        x.addEdge(1, 4);
        x.removeEdge(4);
        x.removeEdge(-1);
        x.setSink(4);
        x.readGraph();
        due("refused", filled(x), 7);
        Check.fill(x, 0, 1);
        x.keep(2);
        due("FULL", x.addEdge(0, 1), ChipGame.FULL);
        due("refused", filled(x), 4);
    }

    private static void notEmptiedByOtherCalls() {
        sentence("They become empty whenever the graph or the sink changes: never else");
        ChipGame x = withFullSlots();
        x.type('x');
        x.clearText();
        x.setChips(1, 7);
        x.fire(1);
        x.stabilize();
        x.reduce();
        x.makeRecurrent();
        x.takeTree(7);
        x.add(1);
        x.undo();
        x.undo();
        due("filled", filled(x), 7);
        due("state", Check.digits(x), 123);
    }

    // ---- promises 22 and 23

    private static void keepAnswers() {
        sentence("22: Returns 1 if the slot was empty, otherwise 0; UNKNOWN.");
        ChipGame x = new ChipGame();
        due("no chips into an empty slot", x.keep(0), 1);
        due("it keeps a state then", x.keep(0), 0);
        due("another", x.keep(2), 1);
        x.reset(2);
        due("empty again", x.keep(0), 1);
    }

    private static void keepRefusals() {
        sentence("22: slot: 0 to 2");
        ChipGame x = new ChipGame();
        x.setChips(1, 3);
        for (int slot : NO_SLOTS) {
            due("keep(" + slot + ")", x.keep(slot), ChipGame.UNKNOWN);
        }
        due("filled", filled(x), 0);
    }

    private static void keepsTheStateOfThen() {
        sentence("22: Keeps the state in a slot.");
        ChipGame x = Check.named("path3");
        Check.setAll(x, 1, 2);
        x.keep(0);
        Check.setAll(x, 3, 4);
        x.keep(1);
        x.keep(2);
        Check.setAll(x, 5, 6);
        x.keep(2);
        x.undo();
        x.load(0);
        due("slot 0", Check.digits(x), 12);
        x.load(1);
        due("slot 1", Check.digits(x), 34);
        x.setChips(1, 9);
        x.load(1);
        due("slot 1 again", Check.digits(x), 34);
        x.load(2);
        due("slot 2, kept over", Check.digits(x), 56);
    }

    private static void loadAnswers() {
        sentence("23: Returns the sum of its chips");
        ChipGame x = Check.named("star8");
        x.keep(0);
        Check.setAll(x, 1000, 1000, 1000, 1000, 1000, 1000, 1000);
        x.keep(1);
        x.add(1);
        x.keep(2);
        due("none", x.load(0), 0);
        due("many", x.load(1), 7000);
        due("most", x.load(2), 14000);
        due("state", x.value(4), 14000);
    }

    private static void loadRefusals() {
        sentence("23: UNKNOWN; NOT_POSSIBLE if the slot is empty.");
        ChipGame x = Check.named("path3");
        x.setChips(1, 3);
        x.keep(1);
        for (int slot : NO_SLOTS) {
            due("load(" + slot + ")", x.load(slot), ChipGame.UNKNOWN);
        }
        due("load(0)", x.load(0), ChipGame.NOT_POSSIBLE);
        due("load(2)", x.load(2), ChipGame.NOT_POSSIBLE);
        due("state", Check.digits(x), 30);
        due("recorded", x.value(5), 1);
    }

    // ---- promise 24

    private static void addWithoutStabilizing() {
        sentence("24: Adds the chips of a slot to those of the state (without stabilizing).");
        ChipGame x = Check.named("path4");
        Check.setAll(x, 1, 2, 3);
        x.keep(0);
        x.add(0);
        due("twice", Check.digits(x), 246);
        x.setChips(1, 0);
        x.add(0);
        due("once more", Check.digits(x), 169);
        x.load(0);
        due("the slot stays", Check.digits(x), 123);
    }

    private static void addAnswers() {
        sentence("24: Returns the sum of all chips then");
        ChipGame x = Check.named("path3");
        x.keep(0);
        due("none and none", x.add(0), 0);
        Check.setAll(x, 4, 5);
        due("some and none", x.add(0), 9);
        x.keep(1);
        x.load(0);
        due("none and some", x.add(1), 9);
        due("some and some", x.add(1), 18);
    }

    private static void addRefusals() {
        sentence("24: UNKNOWN; NOT_POSSIBLE if the slot is empty");
        ChipGame x = Check.named("path3");
        x.setChips(2, 3);
        x.keep(0);
        for (int slot : NO_SLOTS) {
            due("add(" + slot + ")", x.add(slot), ChipGame.UNKNOWN);
        }
        due("add(1)", x.add(1), ChipGame.NOT_POSSIBLE);
        due("add(2)", x.add(2), ChipGame.NOT_POSSIBLE);
        due("state", Check.digits(x), 3);
        due("recorded", x.value(5), 1);
    }

    private static void addUpToTwoThousand() {
        sentence("24: FULL if a node would have more than 2000 chips");
        for (int node = 1; node < 8; node++) {
            ChipGame x = Check.named("cycle8");
            x.setChips(node, 1000);
            x.keep(0);
            x.setChips(node, 1);
            x.keep(1);
            x.load(0);
            due("2000 on node " + node, x.add(0), 2000);
            due("2001 on node " + node, x.add(1), ChipGame.FULL);
            due("chips", x.chips(node), 2000);
            due("undoable", x.value(5), 4);
            due("3000 on node " + node, x.add(0), ChipGame.FULL);
        }
        ChipGame all = Check.named("star8");
        Check.setAll(all, 1000, 1000, 1000, 1000, 1000, 1000, 1000);
        all.keep(0);
        due("2000 on each node", all.add(0), 14000);
        all.setChips(7, 0);
        due("one node isn't full", all.add(0), ChipGame.FULL);
        due("the sum stays", all.value(4), 12000);
    }

    private static void addAboveTwoThousandByFiring() {
        sentence("24: FULL if a node would have more than 2000 chips: only add() looks at it");
        ChipGame x = Check.named("path3");
        Check.setAll(x, 2, 1000);
        x.keep(0);
        x.add(0);
        due("fire(1)", x.fire(1), 2);
        due("more than add() allows", x.chips(2), 2001);
        x.keep(1);
        due("load(1)", x.load(1), 2003);
        due("add(0)", x.add(0), ChipGame.FULL);
        x.setChips(2, 0);
        due("of the slot alone", x.add(1), ChipGame.FULL);
        due("state", x.value(4), 2);
    }

    // ---- promise 25

    private static void sameClassAnswers() {
        sentence("25: Returns 1 if they do, otherwise 0");
        ChipGame x = Check.named("cycle4");
        x.keep(0);
        int[] same = {0, 4, 101, 20, 210, 12, 444, 121};
        for (int digits : same) {
            Check.setAll(x, digits / 100, digits / 10 % 10, digits % 10);
            due("state " + digits, x.isSameClass(0), 1);
        }
        int[] other = {1, 2, 3, 5, 10, 100, 200, 11, 111, 445};
        for (int digits : other) {
            Check.setAll(x, digits / 100, digits / 10 % 10, digits % 10);
            due("state " + digits, x.isSameClass(0), 0);
        }
        ChipGame pair = Check.drawn(2, 0, 1, 0, 1);
        pair.setSink(1);
        pair.keep(0);
        pair.setChips(0, 1);
        due("one chip on node 0", pair.isSameClass(0), 0);
        pair.setChips(0, 2);
        due("two chips on node 0", pair.isSameClass(0), 1);
        ChipGame tree = Check.named("path5");
        tree.keep(2);
        Check.setAll(tree, 1, 9, 7, 1000);
        due("a tree has one class", tree.isSameClass(2), 1);
    }

    private static void sameClassWhetherTheyCanFireOrNot() {
        sentence("by adding or subtracting ... what a firing changes (whether they can fire or not)");
        ChipGame x = Check.named("cycle3");
        Check.setAll(x, 0, 1);
        x.keep(0);
        Check.setAll(x, 2, 0);
        due("by a firing", x.isSameClass(0), 1);
        Check.setAll(x, 1, 2);
        due("by the opposite of two firings", x.isSameClass(0), 1);
        Check.setAll(x, 1, 0);
        due("not by any", x.isSameClass(0), 0);
        due("state", Check.digits(x), 10);
        due("recorded", x.value(5), 8);
    }

    private static void sameClassRefusals() {
        sentence("25: UNKNOWN; NOT_POSSIBLE if the slot is empty; NOT_CONNECTED.");
        ChipGame x = Check.drawn(3, 0, 1);
        x.keep(1);
        for (int slot : NO_SLOTS) {
            due("isSameClass(" + slot + ")", x.isSameClass(slot), ChipGame.UNKNOWN);
        }
        due("empty", x.isSameClass(0), ChipGame.NOT_POSSIBLE);
        due("empty", x.isSameClass(2), ChipGame.NOT_POSSIBLE);
        due("the same state, not connected", x.isSameClass(1), ChipGame.NOT_CONNECTED);
    }
}
