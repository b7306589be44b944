/** The document's sentences on the group that name a boundary: the part Classes, and treeCount() to levelCount(). */
final class GroupSentencesTest {
    private static final Check CHECK = new Check("GroupSentencesTest");

    private static void due(String call, long got, long want) {
        CHECK.due(call, got, want);
    }

    private static void sentence(String quote) {
        CHECK.sentence(quote);
    }

    public static void main(String[] arguments) {
        oneRecurrentAndOneSuperstable();
        sumsOfRecurrentStates();
        identityOfTheGroup();
        orderAtLeastOnce();
        orderBySumming();
        asManyClassesAsTrees();
        factorsGreaterThanOne();
        factorsDivideTheNext();
        factorsWithEachSink();
        levelBounds();
        treeCountOfUnconnected();
        treeCountBounds();
        identityRefusals();
        orderRefusals();
        orderOfManyChips();
        orderWithAnotherSink();
        factorNumbers();
        factorOfATree();
        sevenFactors();
        factorRefusals();
        levelRefusals();
        levelCountBounds();
        levelCountOfAll();
        levelCountRefusals();
        CHECK.end();
    }

    private static ChipGame twoNodes(int edges) {
        ChipGame x = Check.drawn(2);
        for (int e = 0; e < edges; e++) {
            x.addEdge(0, 1);
        }
        return x;
    }

    // ---- Description: Classes

    private static void oneRecurrentAndOneSuperstable() {
        sentence("Each class contains exactly one recurrent and exactly one superstable state.");
        for (int digits = 0; digits < 64; digits++) {
            ChipGame x = Check.named("complete4");
            Check.setAll(x, digits / 16, digits / 4 % 4, digits % 4);
            x.keep(0);
            x.makeRecurrent();
            due("recurrent", x.kind() & 3, 3);
            due("of the same class", x.isSameClass(0), 1);
            long recurrent = Check.digits(x);
            x.load(0);
            x.reduce();
            due("superstable", x.kind() & 5, 5);
            due("of the same class", x.isSameClass(0), 1);
            long superstable = Check.digits(x);
            due("recurrent already", x.makeRecurrent() == 1 ? 1 : 0, recurrent == superstable ? 0 : 1);
            due("the only recurrent one", Check.digits(x), recurrent);
            x.reduce();
            due("the only superstable one", Check.digits(x), superstable);
        }
    }

    private static void sumsOfRecurrentStates() {
        sentence("the sum of two states is the sum of their chips, node by node, stabilized");
        ChipGame x = Check.named("cycle4");
        Check.setAll(x, 1, 1, 0);
        x.keep(0);
        Check.setAll(x, 0, 1, 1);
        due("add()", x.add(0), 4);
        due("not stabilized", Check.digits(x), 121);
        due("stabilize()", x.stabilize(), 4);
        due("the sum", Check.digits(x), 101);
        due("is the identity", x.order(), 1);
        due("and recurrent", x.makeRecurrent(), 0);
    }

    private static void identityOfTheGroup() {
        sentence("The identity is the recurrent state in the class of the state without chips.");
        String[] names = {"path4", "cycle5", "cycle6", "complete4", "star5", "wheel5", "wheel6"};
        for (String name : names) {
            ChipGame x = Check.named(name);
            x.keep(0);
            int n = x.value(0);
            for (int v = 1; v < n; v++) {
                x.setChips(v, x.identity(v));
            }
            due("recurrent, " + name, x.makeRecurrent(), 0);
            due("of that class, " + name, x.isSameClass(0), 1);
            x.keep(1);
            x.add(1);
            x.stabilize();
            for (int v = 1; v < n; v++) {
                due("twice itself, " + name, x.chips(v), x.identity(v));
            }
        }
    }

    private static void orderAtLeastOnce() {
        sentence("how often its recurrent state has to be taken as a summand (at least once) "
            + "for the sum to be the identity");
        ChipGame x = Check.named("cycle5");
        due("no chips", x.order(), 1);
        x.makeRecurrent();
        due("the identity", x.order(), 1);
        Check.setAll(x, 5, 0, 0, 0);
        due("of its class", x.order(), 1);
        Check.setAll(x, 0, 0, 0, 1);
        due("another", x.order(), 5);
        due("the only state of a tree", Check.named("path8").order(), 1);
    }

    private static void orderBySumming() {
        sentence("The order of a class is how often its recurrent state has to be taken as a summand");
        int[] orders = {15, 15, 5, 3, 1};
        int[] states = {1, 31, 101, 11, 1111};
        for (int i = 0; i < states.length; i++) {
            ChipGame x = Check.named("wheel5");
            int digits = states[i];
            Check.setAll(x, digits / 1000, digits / 100 % 10, digits / 10 % 10, digits % 10);
            int order = x.order();
            x.makeRecurrent();
            x.keep(0);
            int taken = 1;
            while (!isIdentity(x) && taken < 100) {
                x.add(0);
                x.stabilize();
                taken++;
            }
            due("order of " + digits, order, taken);
            due("order of " + digits, order, orders[i]);
        }
    }

    private static boolean isIdentity(ChipGame x) {
        for (int v = 1; v < x.value(0); v++) {
            if (x.chips(v) != x.identity(v)) {
                return false;
            }
        }
        return true;
    }

    private static void asManyClassesAsTrees() {
        sentence("The number of classes is the number of spanning trees.");
        ChipGame x = Check.drawn(4, 0, 1, 1, 2, 2, 3, 3, 0, 0, 2, 2, 0);
        boolean[] found = new boolean[1000];
        int classes = 0;
        for (int digits = 0; digits < 2 * 5 * 2; digits++) {
            Check.setAll(x, digits / 10, digits % 5, digits / 5 % 2);
            if ((x.kind() & 2) != 0 && !found[(int) Check.digits(x)]) {
                found[(int) Check.digits(x)] = true;
                classes++;
            }
        }
        due("recurrent states", classes, 12);
        due("treeCount()", x.treeCount(), classes);
    }

    private static void factorsGreaterThanOne() {
        sentence("The factors of the group are the numbers greater than 1 on the diagonal "
            + "of the Smith normal form of the matrix");
        ChipGame x = Check.named("cycle8");
        due("of 1, 1, 1, 1, 1, 1 and 8", x.factor(-1), 1);
        due("factor(0)", x.factor(0), 8);
        due("of 1", new ChipGame().factor(-1), 0);
        due("of 2", twoNodes(2).factor(0), 2);
        due("of 20", twoNodes(20).factor(0), 20);
    }

    private static void factorsDivideTheNext() {
        sentence("each factor divides the next one");
        ChipGame x = Check.drawn(4, 0, 1, 0, 1, 0, 2, 0, 2, 0, 2, 0, 3, 0, 3, 0, 3, 0, 3);
        due("of 2, 3 and 4: number", x.factor(-1), 2);
        due("of 2, 3 and 4: first", x.factor(0), 2);
        due("of 2, 3 and 4: second", x.factor(1), 12);
        due("of 2, 3 and 4: no third", x.factor(2), ChipGame.NO_VALUE);
        ChipGame y = Check.drawn(4, 0, 1, 0, 1, 0, 2, 0, 2, 0, 2, 0, 3, 0, 3, 0, 3, 0, 3, 0, 3);
        due("of 2, 3 and 5: number", y.factor(-1), 1);
        due("of 2, 3 and 5: first", y.factor(0), 30);
        ChipGame z = Check.named("wheel7");
        due("wheel7: divides", z.factor(1) % z.factor(0), 0);
        due("wheel7: product", z.factor(0) * z.factor(1), z.treeCount());
    }

    private static void factorsWithEachSink() {
        sentence("with a row and a column for each node but the sink");
        for (int sink = 0; sink < 7; sink++) {
            factorsWithSink(Check.named("wheel7"), sink, 8, 40);
        }
        for (int sink = 0; sink < 4; sink++) {
            factorsWithSink(Check.drawn(4, 0, 1, 0, 1, 1, 2, 1, 2, 2, 3, 2, 3, 3, 0, 3, 0), sink, 2, 2, 8);
            factorsWithSink(Check.drawn(4, 0, 1, 0, 1, 1, 2, 1, 2, 1, 2, 1, 3, 1, 3, 1, 3, 1, 3), sink, 2, 12);
            factorsWithSink(Check.drawn(4, 0, 1, 0, 1, 0, 1, 1, 2, 1, 2, 2, 3, 2, 3, 2, 3, 2, 3), sink, 2, 12);
            // A node with one edge adds nothing to the group, wherever it is and whatever the sink.
            factorsWithSink(Check.drawn(4, 0, 1, 1, 2, 2, 3, 3, 1), sink, 3);
            factorsWithSink(Check.drawn(4, 3, 0, 0, 1, 1, 2, 2, 0), sink, 3);
        }
    }

    private static void factorsWithSink(ChipGame x, int sink, long... want) {
        x.setSink(sink);
        due("factor(-1) with sink " + sink, x.factor(-1), want.length);
        long product = 1;
        for (int k = 0; k < want.length; k++) {
            due("factor(" + k + ") with sink " + sink, x.factor(k), want[k]);
            product *= want[k];
        }
        due("treeCount() with sink " + sink, x.treeCount(), product);
    }

    private static void levelBounds() {
        sentence("The level of a recurrent state is the sum of its chips, "
            + "minus the number of edges that are not at the sink.");
        ChipGame x = Check.named("wheel5");
        Check.setAll(x, 2, 2, 2, 2);
        due("highest", x.level(), 4);
        Check.setAll(x, 2, 0, 1, 1);
        due("lowest", x.level(), 0);
        ChipGame y = twoNodes(20);
        due("no chips", y.level(), 0);
        y.setChips(1, 19);
        due("most chips", y.level(), 19);
        due("a tree", new ChipGame().level(), 0);
    }

    // ---- promises 26 to 28

    private static void treeCountOfUnconnected() {
        sentence("26: 0 if the graph is not connected");
        due("no edges", Check.drawn(2).treeCount(), 0);
        due("the sink alone", Check.drawn(3, 1, 2, 2, 1).treeCount(), 0);
        due("another node alone", Check.drawn(3, 1, 0, 0, 1).treeCount(), 0);
        ChipGame x = Check.drawn(8, 0, 1, 1, 2, 2, 3, 3, 0, 4, 5, 5, 6, 6, 7, 7, 4);
        due("two circles", x.treeCount(), 0);
        x.addEdge(7, 0);
        due("joined", x.treeCount(), 16);
    }

    private static void treeCountBounds() {
        sentence("26: Returns the number of spanning trees");
        due("one edge", new ChipGame().treeCount(), 1);
        due("a tree", Check.named("star8").treeCount(), 1);
        due("twenty edges", twoNodes(20).treeCount(), 20);
        ChipGame x = Check.named("complete6");
        due("complete6", x.treeCount(), 1296);
        ChipGame y = Check.drawn(8);
        for (int e = 0; e < 14; e++) {
            y.addEdge(0, e / 2 + 1);
        }
        due("a star of double edges", y.treeCount(), 128);
    }

    private static void identityRefusals() {
        sentence("27: Returns its number of chips in the identity; UNKNOWN; NOT_CONNECTED.");
        ChipGame x = Check.named("complete3");
        due("first node", x.identity(1), 1);
        due("last node", x.identity(2), 1);
        int[] wrong = {0, -1, 3, 8, 256, Integer.MIN_VALUE, Integer.MAX_VALUE};
        for (int node : wrong) {
            due("identity(" + node + ")", x.identity(node), ChipGame.UNKNOWN);
        }
        x.setSink(2);
        due("the new sink", x.identity(2), ChipGame.UNKNOWN);
        due("the old sink", x.identity(0), 1);
        ChipGame apart = Check.drawn(3, 0, 1);
        due("not connected", apart.identity(1), ChipGame.NOT_CONNECTED);
        due("not connected, without edges", apart.identity(2), ChipGame.NOT_CONNECTED);
        due("the sink, not connected", apart.identity(0), ChipGame.UNKNOWN);
        due("node n, not connected", apart.identity(3), ChipGame.UNKNOWN);
    }

    private static void orderRefusals() {
        sentence("28: Returns the order of the class of the state; NOT_CONNECTED.");
        due("no edges", Check.drawn(2).order(), ChipGame.NOT_CONNECTED);
        ChipGame x = Check.drawn(3, 0, 1, 1, 0);
        x.setChips(1, 1);
        due("not connected", x.order(), ChipGame.NOT_CONNECTED);
        x.addEdge(1, 2);
        due("connected", x.order(), 2);
        due("state", Check.digits(x), 10);
        due("recorded", x.value(5), 0);
    }

    private static void orderOfManyChips() {
        sentence("28: the order of the class of the state, stable or not");
        ChipGame x = twoNodes(20);
        int[] chips = {0, 1, 2, 5, 10, 15, 19, 20, 21, 40, 999, 1000};
        int[] want = {1, 20, 10, 4, 2, 4, 20, 1, 20, 1, 20, 1};
        for (int i = 0; i < chips.length; i++) {
            x.setChips(1, chips[i]);
            due("order of " + chips[i] + " chips", x.order(), want[i]);
        }
        ChipGame y = Check.named("cycle8");
        Check.setAll(y, 999, 1000, 1000, 1000, 1000, 1000, 1000);
        y.keep(0);
        y.add(0);
        due("nearly 2000 on each node", y.order(), 4);
    }

    private static void orderWithAnotherSink() {
        sentence("28: Returns the order of the class of the state: with another sink");
        ChipGame x = Check.drawn(3, 0, 1, 1, 0, 1, 2);
        x.setSink(2);
        due("no chips", x.order(), 1);
        x.setChips(0, 1);
        due("one chip on node 0", x.order(), 2);
        x.setChips(1, 1);
        due("one more on node 1", x.order(), 2);
        x.setChips(0, 0);
        due("none on node 0", x.order(), 1);
        ChipGame y = Check.named("cycle5");
        y.setSink(2);
        y.setChips(0, 1);
        due("one chip on node 0 of five", y.order(), 5);
        y.setChips(4, 1);
        due("one more on node 4", y.order(), 1);
    }

    // ---- promise 29

    private static void factorNumbers() {
        sentence("29: k: number of a factor, from 0, in ascending order; or -1 for the number of factors");
        ChipGame x = Check.named("wheel5");
        due("factor(-1)", x.factor(-1), 2);
        due("factor(0)", x.factor(0), 3);
        due("factor(1)", x.factor(1), 15);
        due("factor(2)", x.factor(2), ChipGame.NO_VALUE);
        due("factor(-2)", x.factor(-2), ChipGame.NO_VALUE);
    }

    private static void factorOfATree() {
        sentence("29: NO_VALUE if ... there are not so many factors: of none");
        String[] names = {"path2", "path8", "star8"};
        for (String name : names) {
            due("factor(-1) of " + name, Check.named(name).factor(-1), 0);
            due("factor(0) of " + name, Check.named(name).factor(0), ChipGame.NO_VALUE);
        }
    }

    private static void sevenFactors() {
        sentence("29: there are not so many factors: of seven");
        ChipGame x = Check.drawn(8);
        for (int e = 0; e < 14; e++) {
            x.addEdge(e / 2 + 1, 0);
        }
        due("factor(-1)", x.factor(-1), 7);
        for (int k = 0; k < 7; k++) {
            due("factor(" + k + ")", x.factor(k), 2);
        }
        due("factor(7)", x.factor(7), ChipGame.NO_VALUE);
        due("factor(8)", x.factor(8), ChipGame.NO_VALUE);
        x.addEdge(1, 2);
        due("factor(-1)", x.factor(-1), 6);
        due("factor(5)", x.factor(5), 8);
        due("factor(6)", x.factor(6), ChipGame.NO_VALUE);
    }

    private static void factorRefusals() {
        sentence("29: NO_VALUE if k is less than -1, the graph is not connected, or there are not so many factors");
        ChipGame x = Check.named("cycle4");
        int[] wrong = {-2, -3, 1, 2, 8, 256, Integer.MIN_VALUE, Integer.MAX_VALUE};
        for (int k : wrong) {
            due("factor(" + k + ")", x.factor(k), ChipGame.NO_VALUE);
        }
        x.removeEdge(0);
        x.removeEdge(0);
        for (int k = -2; k < 3; k++) {
            due("not connected, factor(" + k + ")", x.factor(k), ChipGame.NO_VALUE);
        }
    }

    // ---- promises 30 and 31

    private static void levelRefusals() {
        sentence("30: Returns the level of the state; NOT_POSSIBLE if it is not recurrent.");
        ChipGame x = Check.named("cycle4");
        due("superstable", x.level(), ChipGame.NOT_POSSIBLE);
        Check.setAll(x, 1, 1, 2);
        due("not stable", x.level(), ChipGame.NOT_POSSIBLE);
        Check.setAll(x, 1, 1, 1);
        due("highest", x.level(), 1);
        Check.setAll(x, 1, 0, 1);
        due("lowest", x.level(), 0);
        Check.setAll(x, 0, 1, 0);
        due("not recurrent", x.level(), ChipGame.NOT_POSSIBLE);
        x.removeEdge(0);
        x.removeEdge(0);
        due("not connected", x.level(), ChipGame.NOT_POSSIBLE);
    }

    private static void levelCountBounds() {
        sentence("31: Returns the number of recurrent states with this level");
        ChipGame x = Check.named("cycle8");
        due("lowest", x.levelCount(0), 7);
        due("highest", x.levelCount(1), 1);
        due("above", x.levelCount(2), 0);
        due("as many as edges", x.levelCount(8), 0);
        due("far above", x.levelCount(Integer.MAX_VALUE), 0);
        ChipGame y = twoNodes(20);
        due("lowest of twenty edges", y.levelCount(0), 1);
        due("highest of twenty edges", y.levelCount(19), 1);
        due("above", y.levelCount(20), 0);
        due("above", y.levelCount(21), 0);
        due("above", y.levelCount(32), 0);
        due("a tree", new ChipGame().levelCount(0), 1);
        due("a tree", new ChipGame().levelCount(1), 0);
    }

    private static void levelCountOfAll() {
        sentence("31: the number of recurrent states with this level: all levels together");
        for (int sink = 0; sink < 4; sink++) {
            ChipGame x = Check.drawn(4, 0, 1, 1, 2, 2, 3, 3, 0, 1, 3, 3, 1);
            x.setSink(sink);
            int[] counts = new int[8];
            countLevels(x, sink, counts);
            int sum = 0;
            for (int level = 0; level < counts.length; level++) {
                due("level " + level + ", sink " + sink, x.levelCount(level), counts[level]);
                sum += counts[level];
            }
            due("all levels, sink " + sink, x.treeCount(), sum);
        }
    }

    /** Counts the recurrent states by the levels that they tell. */
    private static void countLevels(ChipGame x, int sink, int[] counts) {
        for (int digits = 0; digits < 4 * 4 * 4; digits++) {
            Check.setAll(x, digits / 16, digits / 4 % 4, digits % 4);
            int level = x.level();
            if (level != ChipGame.NOT_POSSIBLE) {
                counts[level]++;
            }
        }
    }

    private static void levelCountRefusals() {
        sentence("31: BAD_VALUE; NOT_CONNECTED.");
        ChipGame x = Check.named("path3");
        int[] wrong = {-1, -2, -256, Integer.MIN_VALUE};
        for (int level : wrong) {
            due("levelCount(" + level + ")", x.levelCount(level), ChipGame.BAD_VALUE);
        }
        x.removeEdge(0);
        due("not connected", x.levelCount(0), ChipGame.NOT_CONNECTED);
        due("not connected, high", x.levelCount(21), ChipGame.NOT_CONNECTED);
        due("not connected, below", x.levelCount(-1), ChipGame.BAD_VALUE);
    }
}
