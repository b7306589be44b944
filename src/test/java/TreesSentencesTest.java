/** The document's sentences on spanning trees that name a boundary: the part Trees, and tree() to treeAt(). */
final class TreesSentencesTest {
    private static final Check CHECK = new Check("TreesSentencesTest");

    private static void due(String call, long got, long want) {
        CHECK.due(call, got, want);
    }

    private static void sentence(String quote) {
        CHECK.sentence(quote);
    }

    public static void main(String[] arguments) {
        spanningTrees();
        lowestUnusedEdge();
        moreUsedEdges();
        oneTreeForEachState();
        treeRefusals();
        treeOfTwentyEdges();
        takeTreeAnswers();
        takeTreeRefusals();
        takeTreeUnconnected();
        treeAtAscending();
        treeAtRefusals();
        treeAtUnconnected();
        CHECK.end();
    }

    private static ChipGame twoNodes(int edges) {
        ChipGame x = Check.drawn(2);
        for (int e = 0; e < edges; e++) {
            x.addEdge(0, 1);
        }
        return x;
    }

    // ---- Description: Trees

    private static void spanningTrees() {
        sentence("A spanning tree is a set of n - 1 edges that connects all nodes; "
            + "it is given as a bit set of the numbers of its edges.");
        int[] ends = {0, 1, 1, 2, 2, 0, 2, 3, 3, 0};
        for (int set = 0; set < 32; set++) {
            ChipGame x = Check.drawn(4, ends);
            boolean isTree = Integer.bitCount(set) == 3 && set != 7 && set != 28;
            int answer = x.takeTree(set);
            due("takeTree(" + set + ") is refused", answer == ChipGame.BAD_VALUE ? 1 : 0, isTree ? 0 : 1);
            due("tree() then", x.tree(), isTree ? set : ChipGame.NOT_POSSIBLE);
        }
    }

    private static void lowestUnusedEdge() {
        sentence("the unused edge with the lowest number that joins a marked node and a node v "
            + "that is not marked becomes used");
        ChipGame x = Check.drawn(4, 2, 3, 1, 2, 0, 3, 0, 1);
        Check.setAll(x, 1, 1, 1);
        due("from edge 2 down to edge 0, then to edge 1", x.tree(), 7);
        Check.setAll(x, 0, 1, 1);
        due("edge 1 doesn't mark node 1, edge 3 does", x.tree(), 13);
        Check.setAll(x, 1, 0, 1);
        due("edge 0 doesn't mark node 2, edge 1 does", x.tree(), 14);
        Check.setAll(x, 1, 1, 0);
        due("edge 2 doesn't mark node 3, edge 0 does", x.tree(), 11);
    }

    private static void moreUsedEdges() {
        sentence("if the number of used edges at v is greater than p(v) then, v becomes marked");
        ChipGame x = Check.drawn(3, 0, 1, 1, 0, 0, 1, 1, 2, 2, 1);
        int[] states = {41, 31, 21, 40, 30, 20};
        int[] trees = {9, 10, 12, 17, 18, 20};
        for (int i = 0; i < states.length; i++) {
            Check.setAll(x, states[i] / 10, states[i] % 10);
            due("tree() of " + states[i], x.tree(), trees[i]);
        }
    }

    private static void oneTreeForEachState() {
        sentence("Each spanning tree is the tree of exactly one recurrent state.");
        for (int sink = 0; sink < 4; sink++) {
            boolean[] found = new boolean[64];
            int states = 0;
            for (int digits = 0; digits < 4 * 4 * 4; digits++) {
                ChipGame x = sixEdges(sink);
                Check.setAll(x, digits / 16, digits / 4 % 4, digits % 4);
                int tree = x.tree();
                if (tree != ChipGame.NOT_POSSIBLE) {
                    CHECK.that("a tree of its own", !found[tree]);
                    found[tree] = true;
                    states++;
                    long state = Check.digits(x);
                    x.takeTree(tree);
                    due("takeTree(" + tree + ") with sink " + sink, Check.digits(x), state);
                }
            }
            due("all trees", sixEdges(sink).treeCount(), states);
        }
    }

    private static ChipGame sixEdges(int sink) {
        ChipGame x = Check.drawn(4, 3, 1, 0, 1, 1, 2, 2, 0, 1, 0, 2, 3);
        x.setSink(sink);
        return x;
    }

    // ---- promises 32 to 34

    private static void treeRefusals() {
        sentence("32: Returns the tree of the state, as a bit set; NOT_POSSIBLE if it is not recurrent.");
        due("one edge", new ChipGame().tree(), 1);
        ChipGame x = Check.named("cycle4");
        due("superstable", x.tree(), ChipGame.NOT_POSSIBLE);
        Check.setAll(x, 1, 1, 1);
        due("recurrent", x.tree(), 7);
        Check.setAll(x, 1, 1, 2);
        due("not stable", x.tree(), ChipGame.NOT_POSSIBLE);
        due("no edges", Check.drawn(2).tree(), ChipGame.NOT_POSSIBLE);
        due("not connected", Check.drawn(3, 0, 1).tree(), ChipGame.NOT_POSSIBLE);
    }

    private static void treeOfTwentyEdges() {
        sentence("32: as a bit set: of twenty edges");
        ChipGame x = twoNodes(20);
        for (int chips = 0; chips < 20; chips++) {
            x.setChips(1, chips);
            due("tree() of " + chips, x.tree(), 1 << 19 - chips);
        }
        x.setChips(1, 20);
        due("not stable", x.tree(), ChipGame.NOT_POSSIBLE);
        for (int e = 0; e < 20; e++) {
            due("takeTree() of edge " + e, x.takeTree(1 << e), 19 - e);
            due("treeAt(" + e + ")", x.treeAt(e), 1 << e);
        }
    }

    private static void takeTreeAnswers() {
        sentence("33: Returns the sum of its chips");
        ChipGame x = new ChipGame();
        x.setChips(1, 9);
        due("none", x.takeTree(1), 0);
        due("chips", x.chips(1), 0);
        ChipGame y = Check.named("complete6");
        due("most", y.takeTree(31), 20);
        due("state", Check.digits(y), 44444);
        due("recurrent", y.kind(), 3);
        due("recorded", y.value(5), 1);
    }

    private static void takeTreeRefusals() {
        sentence("33: BAD_VALUE if it is not a spanning tree");
        ChipGame x = Check.drawn(4, 0, 1, 1, 2, 2, 3, 3, 1, 0, 1);
        Check.setAll(x, 4, 5, 6);
        due("no edges", x.takeTree(0), ChipGame.BAD_VALUE);
        due("too few", x.takeTree(3), ChipGame.BAD_VALUE);
        due("too many", x.takeTree(15), ChipGame.BAD_VALUE);
        due("all", x.takeTree(31), ChipGame.BAD_VALUE);
        due("a circle", x.takeTree(14), ChipGame.BAD_VALUE);
        due("parallel edges", x.takeTree(19), ChipGame.BAD_VALUE);
        due("edge 5", x.takeTree(35), ChipGame.BAD_VALUE);
        due("a tree and edge 5", x.takeTree(39), ChipGame.BAD_VALUE);
        due("a tree and edge 20", x.takeTree(1 << 20 | 7), ChipGame.BAD_VALUE);
        due("a tree and bit 30", x.takeTree(1 << 30 | 7), ChipGame.BAD_VALUE);
        due("a tree and bit 31", x.takeTree(1 << 31 | 7), ChipGame.BAD_VALUE);
        due("two edges and bit 31", x.takeTree(1 << 31 | 3), ChipGame.BAD_VALUE);
        due("-1", x.takeTree(-1), ChipGame.BAD_VALUE);
        due("least", x.takeTree(Integer.MIN_VALUE), ChipGame.BAD_VALUE);
        due("most", x.takeTree(Integer.MAX_VALUE), ChipGame.BAD_VALUE);
        due("state", Check.digits(x), 456);
        due("recorded", x.value(5), 3);
        due("a tree", x.takeTree(7), 5);
    }

    private static void takeTreeUnconnected() {
        sentence("33: BAD_VALUE if it is not a spanning tree: where there is none");
        ChipGame x = Check.drawn(4, 0, 1, 2, 3, 3, 2, 1, 0);
        for (int set = 0; set < 16; set++) {
            due("takeTree(" + set + ")", x.takeTree(set), ChipGame.BAD_VALUE);
        }
        due("no edges", Check.drawn(2).takeTree(0), ChipGame.BAD_VALUE);
        due("no edges", Check.drawn(2).takeTree(1), ChipGame.BAD_VALUE);
    }

    private static void treeAtAscending() {
        sentence("34: k: its number, from 0, in ascending order of the bit sets");
        ChipGame x = Check.named("wheel4");
        int k = 0;
        for (int set = 0; set < 64; set++) {
            if (x.takeTree(set) != ChipGame.BAD_VALUE) {
                due("treeAt(" + k + ")", x.treeAt(k), set);
                k++;
            }
        }
        due("all", k, 16);
        due("behind the last", x.treeAt(k), ChipGame.NONE);
    }

    private static void treeAtRefusals() {
        sentence("34: BAD_VALUE if k is negative; NONE if there are not so many.");
        ChipGame x = Check.named("complete6");
        due("-1", x.treeAt(-1), ChipGame.BAD_VALUE);
        due("least", x.treeAt(Integer.MIN_VALUE), ChipGame.BAD_VALUE);
        due("first", x.treeAt(0), 31);
        due("last", x.treeAt(1295), 1 << 14 | 1 << 13 | 1 << 11 | 1 << 8 | 1 << 4);
        due("behind the last", x.treeAt(1296), ChipGame.NONE);
        due("most", x.treeAt(Integer.MAX_VALUE), ChipGame.NONE);
        due("the only one", new ChipGame().treeAt(0), 1);
        due("no other", new ChipGame().treeAt(1), ChipGame.NONE);
    }

    private static void treeAtUnconnected() {
        sentence("34: NONE if there are not so many: where there is none");
        ChipGame x = Check.drawn(3, 1, 2, 2, 1);
        due("first", x.treeAt(0), ChipGame.NONE);
        due("most", x.treeAt(Integer.MAX_VALUE), ChipGame.NONE);
        due("-1", x.treeAt(-1), ChipGame.BAD_VALUE);
    }
}
