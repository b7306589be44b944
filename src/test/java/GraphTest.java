/** Promises 1 to 11: the graph and the text. */
final class GraphTest {
    private static final Check CHECK = new Check("GraphTest");

    private static void due(String call, long got, long want) {
        CHECK.due(call, got, want);
    }

    public static void main(String[] arguments) {
        newObject();
        reset();
        resetForgetsAllButTheText();
        addEdge();
        changesOfTheGraphForgetStates();
        removeEdge();
        setSink();
        type();
        clearText();
        readGraphSizes();
        readGraphEdges();
        readGraphRefusals();
        readGraphStartsAnew();
        value();
        connected();
        degree();
        edge();
        CHECK.end();
    }

    private static void newObject() {
        ChipGame x = new ChipGame();
        due("1 nodes", x.value(0), 2);
        due("1 edges", x.value(1), 1);
        due("1 sink", x.value(2), 0);
        due("1 connected", x.value(3), 1);
        due("1 sum", x.value(4), 0);
        due("1 undo", x.undo(), ChipGame.NONE);
        due("1 edge first", x.edge(0, false), 0);
        due("1 edge second", x.edge(0, true), 1);
        due("1 text", x.clearText(), 0);
        due("1 trees", x.treeCount(), 1);
        for (int slot = 0; slot < 3; slot++) {
            due("1 slot", x.load(slot), ChipGame.NOT_POSSIBLE);
        }
    }

    private static void reset() {
        ChipGame x = new ChipGame();
        due("2 reset(1)", x.reset(1), ChipGame.BAD_VALUE);
        due("2 reset(9)", x.reset(9), ChipGame.BAD_VALUE);
        due("2 reset(least)", x.reset(Integer.MIN_VALUE), ChipGame.BAD_VALUE);
        due("2 reset(most)", x.reset(Integer.MAX_VALUE), ChipGame.BAD_VALUE);
        due("2 refused resets leave the edge", x.value(1), 1);
        due("2 reset(8)", x.reset(8), 2);
        due("2 edges", x.value(1), 0);
        due("2 reset(2)", x.reset(2), 8);
        due("2 reset(2) again", x.reset(2), 2);
        due("2 nodes", x.value(0), 2);
        for (int nodes = 2; nodes <= 8; nodes++) {
            x.reset(nodes);
            due("2 value(0)", x.value(0), nodes);
        }
    }

    private static void resetForgetsAllButTheText() {
        ChipGame x = Check.drawn(3, 0, 1, 1, 2);
        x.setSink(2);
        x.setChips(0, 7);
        x.setChips(1, 8);
        x.keep(1);
        Check.typeText(x, "ab");
        due("2 refused", x.reset(0), ChipGame.BAD_VALUE);
        due("2 chips stay when refused", x.chips(1), 8);
        due("2 undoable stay when refused", x.value(5), 2);
        due("2 slot stays when refused", x.keep(1), 0);
        due("2 reset", x.reset(3), 3);
        due("2 sink", x.value(2), 0);
        due("2 sum", x.value(4), 0);
        due("2 undoable", x.value(5), 0);
        due("2 edges", x.value(1), 0);
        due("2 degree", x.degree(1), 0);
        due("2 slot", x.load(1), ChipGame.NOT_POSSIBLE);
        due("2 text stays", x.clearText(), 2);
        x.setChips(2, 5);
        x.reset(2);
        x.reset(3);
        due("2 chips of a node that came back", x.chips(2), 0);
    }

    private static void addEdge() {
        ChipGame x = new ChipGame();
        x.reset(4);
        due("3 addEdge(0, 1)", x.addEdge(0, 1), 0);
        due("3 addEdge(3, 2)", x.addEdge(3, 2), 1);
        due("3 addEdge(1, 0)", x.addEdge(1, 0), 2);
        due("3 u below", x.addEdge(-1, 2), ChipGame.UNKNOWN);
        due("3 u above", x.addEdge(4, 2), ChipGame.UNKNOWN);
        due("3 v below", x.addEdge(2, -1), ChipGame.UNKNOWN);
        due("3 v above", x.addEdge(2, 4), ChipGame.UNKNOWN);
        due("3 unknown before same", x.addEdge(4, 4), ChipGame.UNKNOWN);
        due("3 same", x.addEdge(2, 2), ChipGame.BAD_VALUE);
        due("3 same sink", x.addEdge(0, 0), ChipGame.BAD_VALUE);
        due("3 edges", x.value(1), 3);
        for (int e = 3; e < 20; e++) {
            due("3 number", x.addEdge(2, 3), e);
        }
        due("3 full", x.addEdge(0, 2), ChipGame.FULL);
        due("3 same before full", x.addEdge(1, 1), ChipGame.BAD_VALUE);
        due("3 unknown before full", x.addEdge(8, 1), ChipGame.UNKNOWN);
        due("3 edges", x.value(1), 20);
        due("3 degree", x.degree(3), 18);
        due("3 removed", x.removeEdge(19), 19);
        due("3 room again", x.addEdge(0, 2), 19);
    }

    private static void changesOfTheGraphForgetStates() {
        ChipGame x = Check.drawn(3, 0, 1, 1, 2);
        Check.setAll(x, 4, 5);
        x.keep(0);
        due("3 refused", x.addEdge(1, 1), ChipGame.BAD_VALUE);
        due("3 undoable stay", x.value(5), 2);
        x.addEdge(2, 0);
        due("3 chips stay", Check.digits(x), 45);
        due("3 undoable", x.value(5), 0);
        due("3 undo", x.undo(), ChipGame.NONE);
        due("3 slot", x.load(0), ChipGame.NOT_POSSIBLE);
        x.setChips(1, 6);
        x.keep(2);
        due("4 refused", x.removeEdge(3), ChipGame.UNKNOWN);
        due("4 undoable stay", x.value(5), 1);
        due("4 slot stays", x.keep(2), 0);
        due("4 removed", x.removeEdge(0), 2);
        due("4 chips stay", Check.digits(x), 65);
        due("4 undoable", x.value(5), 0);
        due("4 slot", x.add(2), ChipGame.NOT_POSSIBLE);
    }

    private static void removeEdge() {
        ChipGame x = Check.drawn(4, 0, 1, 1, 2, 3, 2, 0, 3);
        due("4 below", x.removeEdge(-1), ChipGame.UNKNOWN);
        due("4 above", x.removeEdge(4), ChipGame.UNKNOWN);
        due("4 far", x.removeEdge(Integer.MAX_VALUE), ChipGame.UNKNOWN);
        due("4 removeEdge(1)", x.removeEdge(1), 3);
        due("4 moved first", x.edge(1, false), 3);
        due("4 moved second", x.edge(1, true), 2);
        due("4 moved first", x.edge(2, false), 0);
        due("4 moved second", x.edge(2, true), 3);
        due("4 unmoved", x.edge(0, true), 1);
        due("4 gone", x.edge(3, false), ChipGame.UNKNOWN);
        due("4 degree 1", x.degree(1), 1);
        due("4 degree 2", x.degree(2), 1);
        due("4 last", x.removeEdge(2), 2);
        due("4 first", x.removeEdge(0), 1);
        due("4 left", x.edge(0, false), 3);
        due("4 only", x.removeEdge(0), 0);
        due("4 none", x.removeEdge(0), ChipGame.UNKNOWN);
    }

    private static void setSink() {
        ChipGame x = Check.drawn(3, 0, 1, 1, 2);
        Check.setAll(x, 4, 5);
        x.keep(0);
        due("5 below", x.setSink(-1), ChipGame.UNKNOWN);
        due("5 above", x.setSink(3), ChipGame.UNKNOWN);
        due("5 the same", x.setSink(0), 0);
        due("5 undoable stay", x.value(5), 2);
        due("5 slot stays", x.keep(0), 0);
        due("5 other", x.setSink(1), 0);
        due("5 sink", x.value(2), 1);
        due("5 its chips vanish", x.value(4), 5);
        due("5 sink has none", x.chips(1), ChipGame.UNKNOWN);
        due("5 old sink", x.chips(0), 0);
        due("5 others stay", x.chips(2), 5);
        due("5 undoable", x.value(5), 0);
        due("5 slot", x.load(0), ChipGame.NOT_POSSIBLE);
        due("5 edges stay", x.value(1), 2);
        due("5 back", x.setSink(0), 1);
        due("5 vanished chips are gone", x.chips(1), 0);
    }

    private static void type() {
        ChipGame x = new ChipGame();
        due("6 first", x.type('\0'), 1);
        due("6 high", x.type('\uffff'), 2);
        for (int length = 3; length <= 12; length++) {
            due("6 type", x.type('a'), length);
        }
        due("6 full", x.type('a'), ChipGame.FULL);
        due("6 full again", x.type('a'), ChipGame.FULL);
        due("7 length", x.clearText(), 12);
        due("6 room again", x.type('p'), 1);
    }

    private static void clearText() {
        ChipGame x = new ChipGame();
        due("7 empty", x.clearText(), 0);
        Check.typeText(x, "path5");
        due("7 five", x.clearText(), 5);
        due("7 emptied", x.clearText(), 0);
        due("7 nothing named", x.readGraph(), ChipGame.BAD_TEXT);
        Check.typeText(x, "path3");
        due("7 graph stays", x.value(0), 2);
        due("7 typed anew", x.readGraph(), 2);
    }

    private static void readGraphSizes() {
        sizes("path", 2, 8, new int[] {1, 2, 3, 4, 5, 6, 7});
        sizes("cycle", 3, 8, new int[] {3, 4, 5, 6, 7, 8});
        sizes("complete", 2, 6, new int[] {1, 3, 6, 10, 15});
        sizes("star", 2, 8, new int[] {1, 2, 3, 4, 5, 6, 7});
        sizes("wheel", 4, 8, new int[] {6, 8, 10, 12, 14});
    }

    private static void sizes(String name, int least, int most, int[] edges) {
        for (int k = 0; k <= 9; k++) {
            ChipGame x = new ChipGame();
            Check.typeText(x, name + k);
            boolean allowed = k >= least && k <= most;
            due("8 " + name + k, x.readGraph(), allowed ? edges[k - least] : ChipGame.BAD_TEXT);
            due("8 nodes of " + name + k, x.value(0), allowed ? k : 2);
            due("8 text of " + name + k + " stays", x.clearText(), name.length() + 1);
        }
    }

    private static void readGraphEdges() {
        edges("path2", 0, 1);
        edges("path4", 0, 1, 1, 2, 2, 3);
        edges("cycle3", 0, 1, 1, 2, 2, 0);
        edges("cycle5", 0, 1, 1, 2, 2, 3, 3, 4, 4, 0);
        edges("complete4", 0, 1, 0, 2, 0, 3, 1, 2, 1, 3, 2, 3);
        edges("star4", 0, 1, 0, 2, 0, 3);
        edges("wheel4", 0, 1, 0, 2, 0, 3, 1, 2, 2, 3, 3, 1);
        edges("wheel5", 0, 1, 0, 2, 0, 3, 0, 4, 1, 2, 2, 3, 3, 4, 4, 1);
    }

    private static void edges(String text, int... ends) {
        ChipGame x = Check.named(text);
        due("8 edges of " + text, x.value(1), ends.length / 2);
        for (int i = 0; i < ends.length; i++) {
            due("8 end " + i + " of " + text, x.edge(i / 2, i % 2 == 1), ends[i]);
        }
    }

    private static void readGraphRefusals() {
        String[] texts = {"", "4", "path", "path44", "path4 ", " path4", "Path4", "path 4", "pat4",
            "paths4", "pathx", "path:", "path/", "path\u0664", "star\u00b2", "cycle", "wheels6", "whee6",
            "complete7", "complete", "completed4", "pathpath4", "4path", "tar4", "xstar4", "path\uff14",
            "completecomp", "\u0170ath4"};
        for (String text : texts) {
            ChipGame x = Check.drawn(3, 0, 1, 1, 2);
            x.setChips(1, 3);
            x.keep(0);
            Check.typeText(x, text);
            due("8 \"" + text + "\"", x.readGraph(), ChipGame.BAD_TEXT);
            due("8 nodes stay", x.value(0), 3);
            due("8 chips stay", x.chips(1), 3);
            due("8 undoable stay", x.value(5), 1);
            due("8 slot stays", x.keep(0), 0);
            due("8 text stays", x.clearText(), text.length());
        }
    }

    private static void readGraphStartsAnew() {
        ChipGame x = Check.named("cycle4");
        x.setSink(2);
        Check.setAll(x, 1, 2, 3);
        x.keep(0);
        due("8 the same graph again", x.readGraph(), 4);
        due("8 sink", x.value(2), 0);
        due("8 sum", x.value(4), 0);
        due("8 undoable", x.value(5), 0);
        due("8 slot", x.load(0), ChipGame.NOT_POSSIBLE);
        x.setChips(1, 5);
        x.keep(1);
        due("8 with the same sink", x.readGraph(), 4);
        due("8 sum", x.value(4), 0);
        due("8 undoable", x.value(5), 0);
        due("8 slot", x.load(1), ChipGame.NOT_POSSIBLE);
    }

    private static void value() {
        ChipGame x = Check.named("wheel6");
        Check.setAll(x, 1, 2, 0, 1000, 5);
        due("9 nodes", x.value(0), 6);
        due("9 edges", x.value(1), 10);
        due("9 sink", x.value(2), 0);
        due("9 connected", x.value(3), 1);
        due("9 sum", x.value(4), 1008);
        due("9 undoable", x.value(5), 5);
        due("9 away", x.value(6), 5);
        due("9 below", x.value(-1), ChipGame.BAD_VALUE);
        due("9 above", x.value(7), ChipGame.BAD_VALUE);
        due("9 least", x.value(Integer.MIN_VALUE), ChipGame.BAD_VALUE);
        x.setSink(3);
        due("9 sink", x.value(2), 3);
        due("9 away", x.value(6), 7);
        due("9 sum", x.value(4), 1008);
        due("9 undoable", x.value(5), 0);
    }

    private static void connected() {
        ChipGame x = new ChipGame();
        x.reset(5);
        due("9 no edges", x.value(3), 0);
        int[][] edges = {{3, 4}, {1, 2}, {4, 2}, {1, 3}};
        for (int[] edge : edges) {
            x.addEdge(edge[0], edge[1]);
            due("9 without the sink", x.value(3), 0);
        }
        x.addEdge(0, 4);
        due("9 with the sink", x.value(3), 1);
        x.removeEdge(0);
        due("9 circle cut", x.value(3), 1);
        x.removeEdge(0);
        due("9 in parts", x.value(3), 0);
    }

    private static void degree() {
        ChipGame x = Check.drawn(4, 0, 1, 1, 0, 1, 2);
        due("10 sink", x.degree(0), 2);
        due("10 both edges", x.degree(1), 3);
        due("10 one", x.degree(2), 1);
        due("10 none", x.degree(3), 0);
        due("10 below", x.degree(-1), ChipGame.UNKNOWN);
        due("10 above", x.degree(4), ChipGame.UNKNOWN);
        due("10 far", x.degree(Integer.MIN_VALUE), ChipGame.UNKNOWN);
        x.reset(4);
        due("10 after reset", x.degree(1), 0);
    }

    private static void edge() {
        ChipGame x = Check.drawn(3, 2, 0, 1, 2);
        due("11 first of 0", x.edge(0, false), 2);
        due("11 second of 0", x.edge(0, true), 0);
        due("11 first of 1", x.edge(1, false), 1);
        due("11 second of 1", x.edge(1, true), 2);
        due("11 above", x.edge(2, false), ChipGame.UNKNOWN);
        due("11 below", x.edge(-1, true), ChipGame.UNKNOWN);
        due("11 far", x.edge(Integer.MAX_VALUE, true), ChipGame.UNKNOWN);
        due("11 twenty", x.edge(20, false), ChipGame.UNKNOWN);
    }
}
