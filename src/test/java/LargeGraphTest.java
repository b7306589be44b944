import java.util.Arrays;
import java.util.HashSet;
import java.util.Set;

/**
 * Graphs of 8 nodes and 20 edges, too large for SlowGame to look through for each call: what
 * different calls say of one graph agrees. An object is made anew before its 512 calls are used up.
 */
final class LargeGraphTest {
    private static final Check CHECK = new Check("LargeGraphTest");
    private static final int NODES = 8;
    private static final int EDGES = 20;
    private static final int LEVELS = EDGES + 1;
    private static final int TREES_OF_ONE = 20;

    public static void main(String[] arguments) {
        int[][] steps = {{1, 2, 3}, {1, 3, 4}, {1, 1, 2}, {1, 4, 2}, {1, 1, 1}};
        for (int kind = 0; kind < steps.length; kind++) {
            for (int sink = kind % 2; sink < NODES; sink += 3) {
                agree("graph " + kind + " with sink " + sink + ": ", steps[kind], sink);
            }
        }
        CHECK.end();
    }

    /** Edges round the circle, by each step in turn. */
    private static ChipGame drawn(int[] steps, int sink) {
        ChipGame game = new ChipGame();
        game.reset(NODES);
        for (int step : steps) {
            for (int v = 0; v < NODES && game.value(1) < EDGES; v++) {
                game.addEdge(v, (v + step) % NODES);
            }
        }
        game.setSink(sink);
        return game;
    }

    private static void agree(String at, int[] steps, int sink) {
        ChipGame game = drawn(steps, sink);
        CHECK.due(at + "edges", game.value(1), EDGES);
        int count = (int) game.treeCount();
        int[] levels = new int[LEVELS];
        for (int level = 0; level < LEVELS; level++) {
            levels[level] = game.levelCount(level);
        }
        CHECK.due(at + "26 and 31: states of all levels", Arrays.stream(levels).sum(), count);
        CHECK.due(at + "31: of no level", game.levelCount(LEVELS), 0);
        long lastFactor = factorsOf(at, game, count);
        int[] found = new int[LEVELS];
        Set<Long> states = new HashSet<>();
        int before = -1;
        for (int k = 0; k < count; k++) {
            game = k % TREES_OF_ONE == 0 ? drawn(steps, sink) : game;
            before = takeOne(at, game, k, before);
            found[game.level()]++;
            states.add(digits(game));
            CHECK.due(at + "28 and 29: the order divides the last factor", lastFactor % game.order(), 0);
        }
        CHECK.due(at + "34: behind the last", game.treeAt(count), ChipGame.NONE);
        CHECK.due(at + "33: states of all trees", states.size(), count);
        CHECK.that(at + "30 and 31: levels", Arrays.equals(levels, found));
    }

    /** Checks that the product of all factors is the number of trees; answers the last one. */
    private static long factorsOf(String at, ChipGame game, int count) {
        long product = 1;
        long last = 1;
        for (int k = 0; k < game.factor(-1); k++) {
            long factor = game.factor(k);
            CHECK.that(at + "29: a factor is above 1", factor > 1);
            CHECK.due(at + "29: rest of a factor by the one before", factor % last, 0);
            last = factor;
            product *= factor;
        }
        CHECK.due(at + "26 and 29: product of factors", product, count);
        return last;
    }

    private static int takeOne(String at, ChipGame game, int k, int before) {
        int tree = game.treeAt(k);
        CHECK.that(at + "34: in ascending order", tree > before);
        CHECK.due(at + "33: sum of chips", game.takeTree(tree), game.value(4));
        CHECK.due(at + "19: recurrent", game.kind() & 2, 2);
        CHECK.due(at + "32: the tree taken", game.tree(), tree);
        CHECK.due(at + "18: recurrent already", game.makeRecurrent(), 0);
        return tree;
    }

    /** The chips of all nodes, each below 20. */
    private static long digits(ChipGame game) {
        long number = 0;
        for (int v = 0; v < NODES; v++) {
            number = number * EDGES + (v == game.value(2) ? 0 : game.chips(v));
        }
        return number;
    }
}
