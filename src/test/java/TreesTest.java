/** Promises 32 to 34: spanning trees. */
final class TreesTest {
    private static final Check CHECK = new Check("TreesTest");

    private static void due(String call, long got, long want) {
        CHECK.due(call, got, want);
    }

    public static void main(String[] arguments) {
        tree();
        treeRefusals();
        takeTree();
        takeTreeRefusals();
        treeAt();
        treeAtRefusals();
        pairing("complete5", 0);
        pairing("wheel6", 3);
        pairing("cycle8", 5);
        CHECK.end();
    }

    private static void tree() {
        ChipGame x = Check.named("complete3");
        Check.setAll(x, 1, 1);
        due("32 all marked at once", x.tree(), 3);
        Check.setAll(x, 0, 1);
        due("32 node 2 first", x.tree(), 6);
        Check.setAll(x, 1, 0);
        due("32 node 1 first", x.tree(), 5);
        due("32 not recorded", x.value(5), 6);
        ChipGame doubled = Check.drawn(3, 1, 2, 1, 0, 0, 1, 2, 1);
        Check.setAll(doubled, 3, 1);
        due("32 lowest edges", doubled.tree(), 3);
        Check.setAll(doubled, 2, 0);
        due("32 second edges", doubled.tree(), 12);
    }

    private static void treeRefusals() {
        ChipGame x = Check.named("complete3");
        due("32 not recurrent", x.tree(), ChipGame.NOT_POSSIBLE);
        Check.setAll(x, 2, 1);
        due("32 not stable", x.tree(), ChipGame.NOT_POSSIBLE);
        due("32 unconnected", Check.drawn(3, 1, 2).tree(), ChipGame.NOT_POSSIBLE);
    }

    private static void takeTree() {
        ChipGame x = Check.named("complete3");
        x.setChips(2, 700);
        due("33 sum", x.takeTree(6), 1);
        due("33 state", Check.digits(x), 1);
        due("33 sum", x.takeTree(5), 1);
        due("33 state", Check.digits(x), 10);
        due("33 sum", x.takeTree(3), 2);
        due("33 state", Check.digits(x), 11);
        due("33 the same again", x.takeTree(3), 2);
        due("33 recorded", x.value(5), 5);
        due("33 undo", x.undo(), 4);
        due("33 recurrent", x.kind(), 3);
    }

    private static void takeTreeRefusals() {
        ChipGame x = Check.named("cycle4");
        x.setChips(1, 5);
        int[] wrong = {0, 1, 3, 15, 16, 19, 22, -1, -9, Integer.MIN_VALUE, Integer.MAX_VALUE,
            1 << 20 | 3, 1 << 30 | 3, Integer.MIN_VALUE | 3, Integer.MIN_VALUE | 7};
        for (int tree : wrong) {
            due("33 takeTree(" + tree + ")", x.takeTree(tree), ChipGame.BAD_VALUE);
        }
        due("33 unchanged", Check.digits(x), 500);
        due("33 not recorded", x.value(5), 1);
        ChipGame circle = Check.drawn(4, 1, 2, 2, 3, 3, 1, 0, 1);
        due("33 a circle", circle.takeTree(7), ChipGame.BAD_VALUE);
        due("33 a tree", circle.takeTree(11), 4);
        ChipGame parallel = Check.drawn(3, 0, 1, 0, 1, 1, 2);
        due("33 parallel edges", parallel.takeTree(3), ChipGame.BAD_VALUE);
        ChipGame apart = Check.drawn(3, 0, 1, 1, 0);
        due("33 unconnected", apart.takeTree(3), ChipGame.BAD_VALUE);
    }

    private static void treeAt() {
        ChipGame x = Check.drawn(4, 1, 2, 2, 3, 3, 1, 0, 1, 1, 2);
        int[] trees = {11, 13, 14, 26, 28};
        for (int k = 0; k < trees.length; k++) {
            due("34 treeAt(" + k + ")", x.treeAt(k), trees[k]);
        }
        due("34 behind the last", x.treeAt(5), ChipGame.NONE);
        x.setSink(2);
        due("34 any sink", x.treeAt(3), 26);
        due("34 path", Check.named("path8").treeAt(0), 127);
    }

    private static void treeAtRefusals() {
        ChipGame x = Check.named("cycle4");
        due("34 below", x.treeAt(-1), ChipGame.BAD_VALUE);
        due("34 least", x.treeAt(Integer.MIN_VALUE), ChipGame.BAD_VALUE);
        due("34 first", x.treeAt(0), 7);
        due("34 last", x.treeAt(3), 14);
        due("34 behind the last", x.treeAt(4), ChipGame.NONE);
        due("34 most", x.treeAt(Integer.MAX_VALUE), ChipGame.NONE);
        x.reset(4);
        due("34 unconnected", x.treeAt(0), ChipGame.NONE);
        due("34 bad before none", x.treeAt(-1), ChipGame.BAD_VALUE);
    }

    /** Each tree in ascending order gives a recurrent state that gives the tree again. */
    private static void pairing(String text, int sink) {
        int trees = (int) Check.named(text).treeCount();
        int before = 0;
        for (int k = 0; k < trees; k++) {
            ChipGame x = Check.named(text);
            x.setSink(sink);
            int tree = x.treeAt(k);
            CHECK.that("34 ascending", tree > before);
            before = tree;
            int sum = x.takeTree(tree);
            due("33 sum", sum, x.value(4));
            CHECK.that("33 recurrent", (x.kind() & 2) != 0);
            due("32 tree " + k + " of " + text, x.tree(), tree);
        }
    }
}
