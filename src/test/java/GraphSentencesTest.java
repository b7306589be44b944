/** The document's sentences on graphs and texts that name a boundary: the parts Graph and Text. */
final class GraphSentencesTest {
    private static final Check CHECK = new Check("GraphSentencesTest");

    private static void due(String call, long got, long want) {
        CHECK.due(call, got, want);
    }

    private static void sentence(String quote) {
        CHECK.sentence(quote);
    }

    public static void main(String[] arguments) {
        nodes();
        edges();
        severalEdges();
        degreeOfANode();
        sinkAtFirst();
        connected();
        newObject();
        newObjectsShareNothing();
        resetRange();
        resetStartsAnew();
        resetKeepsTheText();
        resetAnswersTheNumberBefore();
        addEdgeKeepsChips();
        addEdgeAtTheSink();
        addEdgeRefusals();
        removeEdgeMovesNumbers();
        removeEdgeKeepsChips();
        removeEdgeRefusals();
        setSinkTakesChips();
        setSinkForgets();
        setSinkToTheSink();
        setSinkRefusals();
        typeAnyCharacter();
        typeRefusals();
        clearText();
        textsOfTwelve();
        nothingElse();
        paths();
        cycles();
        completes();
        stars();
        wheels();
        readGraphStartsAnew();
        readGraphKeepsTheText();
        readGraphRefusals();
        valueRange();
        valueConnected();
        valueSum();
        valueUndoable();
        valueAway();
        degreeRefusals();
        edgeEnds();
        edgeRefusals();
        CHECK.end();
    }

    // ---- Description: Graph

    private static void nodes() {
        sentence("There are n nodes, 2 to 8, numbered from 0");
        ChipGame x = new ChipGame();
        for (int n = 2; n <= 8; n++) {
            x.reset(n);
            due("value(0)", x.value(0), n);
            due("node -1", x.degree(-1), ChipGame.UNKNOWN);
            due("node 0", x.degree(0), 0);
            due("last node", x.degree(n - 1), 0);
            due("node n", x.degree(n), ChipGame.UNKNOWN);
        }
        due("reset(1)", x.reset(1), ChipGame.BAD_VALUE);
        due("reset(9)", x.reset(9), ChipGame.BAD_VALUE);
    }

    private static void edges() {
        sentence("up to 20 edges, numbered from 0 in the order in which they were added");
        ChipGame x = Check.drawn(8);
        for (int e = 0; e < 20; e++) {
            due("edge " + e, x.addEdge(e % 8, (e + 1) % 8), e);
        }
        due("edge 20", x.addEdge(3, 4), ChipGame.FULL);
        for (int e = 0; e < 20; e++) {
            due("first of " + e, x.edge(e, false), e % 8);
            due("second of " + e, x.edge(e, true), (e + 1) % 8);
        }
        due("edge(20)", x.edge(20, false), ChipGame.UNKNOWN);
    }

    private static void severalEdges() {
        sentence("an edge joins two different nodes, and there can be several edges between two nodes");
        ChipGame x = Check.drawn(3);
        due("to itself", x.addEdge(1, 1), ChipGame.BAD_VALUE);
        due("1-2", x.addEdge(1, 2), 0);
        due("1-2 again", x.addEdge(1, 2), 1);
        due("2-1", x.addEdge(2, 1), 2);
        due("edges", x.value(1), 3);
        due("degree", x.degree(2), 3);
    }

    private static void degreeOfANode() {
        sentence("The degree of a node is the number of edges at it.");
        ChipGame x = Check.drawn(3);
        due("without edges", x.degree(1), 0);
        x.addEdge(1, 2);
        due("first end", x.degree(1), 1);
        due("second end", x.degree(2), 1);
        x.addEdge(2, 1);
        x.addEdge(0, 2);
        due("several", x.degree(1), 2);
        due("all", x.degree(2), 3);
        due("sink", x.degree(0), 1);
        x.removeEdge(0);
        due("removed", x.degree(2), 2);
        Check.fill(x, 1, 2);
        due("most", x.degree(2), 20);
    }

    private static void sinkAtFirst() {
        sentence("One node is the sink, at first node 0.");
        ChipGame x = new ChipGame();
        due("new", x.value(2), 0);
        due("chips of node 0", x.chips(0), ChipGame.UNKNOWN);
        due("chips of node 1", x.chips(1), 0);
        x.setSink(1);
        x.reset(4);
        due("after reset", x.value(2), 0);
    }

    private static void connected() {
        sentence("The graph is connected if there is a way along edges from each node to the sink.");
        ChipGame x = Check.drawn(5, 1, 0, 2, 1, 3, 2, 4, 3);
        due("a way of four edges", x.value(3), 1);
        x.setSink(4);
        due("to another sink", x.value(3), 1);
        x.removeEdge(3);
        due("the sink without edges", x.value(3), 0);
        x.setSink(0);
        due("one node without edges", x.value(3), 0);
        x.addEdge(3, 2);
        due("no other way", x.value(3), 0);
        x.addEdge(1, 4);
        due("joined", x.value(3), 1);
    }

    // ---- promises 1 and 2

    private static void newObject() {
        sentence("Creates a graph of 2 nodes with one edge.");
        ChipGame x = new ChipGame();
        due("nodes", x.value(0), 2);
        due("edges", x.value(1), 1);
        due("connected", x.value(3), 1);
        due("degree of 0", x.degree(0), 1);
        due("degree of 1", x.degree(1), 1);
        due("node 2", x.degree(2), ChipGame.UNKNOWN);
        due("edge 1", x.edge(1, false), ChipGame.UNKNOWN);
        due("sum of chips", x.value(4), 0);
        due("undo", x.undo(), ChipGame.NONE);
        due("text", x.readGraph(), ChipGame.BAD_TEXT);
        due("length", x.clearText(), 0);
        for (int slot = 0; slot < 3; slot++) {
            due("slot " + slot, x.keep(slot), 1);
        }
    }

    private static void newObjectsShareNothing() {
        sentence("Creates a graph");
        ChipGame x = Check.named("cycle5");
        Check.setAll(x, 1, 2, 3, 4);
        x.keep(0);
        ChipGame y = new ChipGame();
        due("nodes", y.value(0), 2);
        due("chips", y.chips(1), 0);
        due("text", y.clearText(), 0);
        due("slot", y.load(0), ChipGame.NOT_POSSIBLE);
        due("undoable", y.value(5), 0);
        due("the first one's nodes", x.value(0), 5);
        due("the first one's chips", Check.digits(x), 1234);
        due("the first one's text", x.clearText(), 6);
    }

    private static void resetRange() {
        sentence("2: nodes: n, 2 to 8");
        ChipGame x = new ChipGame();
        int[] wrong = {1, 9, 0, -1, 10, 258, 65538, Integer.MIN_VALUE, Integer.MAX_VALUE};
        for (int nodes : wrong) {
            due("reset(" + nodes + ")", x.reset(nodes), ChipGame.BAD_VALUE);
            due("nodes", x.value(0), 2);
            due("edges", x.value(1), 1);
        }
        due("reset(8)", x.reset(8), 2);
        due("node 7", x.chips(7), 0);
        due("reset(2)", x.reset(2), 8);
        due("node 2", x.chips(2), ChipGame.UNKNOWN);
    }

    private static void resetStartsAnew() {
        sentence("2: Starts anew: no edges, no chips, node 0 is the sink, and nothing can be undone.");
        ChipGame x = Check.drawn(4, 0, 1, 1, 2, 2, 3);
        x.setSink(2);
        Check.setAll(x, 3, 4, 5);
        x.reset(4);
        due("edges", x.value(1), 0);
        due("edge 0", x.edge(0, true), ChipGame.UNKNOWN);
        due("degree", x.degree(1), 0);
        due("sum", x.value(4), 0);
        due("chips", x.chips(3), 0);
        due("sink", x.value(2), 0);
        due("undo", x.undo(), ChipGame.NONE);
        due("first edge", x.addEdge(2, 3), 0);
    }

    private static void resetKeepsTheText() {
        sentence("2: The text stays.");
        ChipGame x = new ChipGame();
        Check.typeText(x, "star5");
        x.reset(3);
        due("readGraph", x.readGraph(), 4);
        x.reset(2);
        due("length", x.clearText(), 5);
    }

    private static void resetAnswersTheNumberBefore() {
        sentence("2: Returns the previous number of nodes; BAD_VALUE.");
        ChipGame x = new ChipGame();
        due("first", x.reset(5), 2);
        due("second", x.reset(3), 5);
        due("refused", x.reset(9), ChipGame.BAD_VALUE);
        due("third", x.reset(8), 3);
        due("the same", x.reset(8), 8);
    }

    // ---- promises 3 to 5

    private static void addEdgeKeepsChips() {
        sentence("3: The chips stay.");
        ChipGame x = Check.drawn(4, 0, 1);
        Check.setAll(x, 7, 8, 9);
        x.addEdge(3, 1);
        due("chips", Check.digits(x), 789);
        x.addEdge(0, 2);
        due("chips", Check.digits(x), 789);
    }

    private static void addEdgeAtTheSink() {
        sentence("3: u: a node (perhaps the sink)");
        ChipGame x = Check.drawn(8);
        due("the sink first", x.addEdge(0, 7), 0);
        sentence("3: v: another node (perhaps the sink)");
        due("the sink second", x.addEdge(7, 0), 1);
        x.setSink(7);
        due("another sink first", x.addEdge(7, 6), 2);
        due("another sink second", x.addEdge(0, 7), 3);
    }

    private static void addEdgeRefusals() {
        sentence("3: UNKNOWN; BAD_VALUE if both are the same; FULL if there are 20 edges.");
        ChipGame x = Check.drawn(3);
        int[] wrong = {-1, 3, 8, 256, Integer.MIN_VALUE, Integer.MAX_VALUE};
        for (int node : wrong) {
            due("u " + node, x.addEdge(node, 1), ChipGame.UNKNOWN);
            due("v " + node, x.addEdge(1, node), ChipGame.UNKNOWN);
            due("both " + node, x.addEdge(node, node), ChipGame.UNKNOWN);
        }
        due("0-0", x.addEdge(0, 0), ChipGame.BAD_VALUE);
        due("2-2", x.addEdge(2, 2), ChipGame.BAD_VALUE);
        for (int e = 0; e < 19; e++) {
            x.addEdge(0, 1);
        }
        due("the twentieth", x.addEdge(1, 2), 19);
        due("one more", x.addEdge(1, 2), ChipGame.FULL);
        due("edges", x.value(1), 20);
    }

    private static void removeEdgeMovesNumbers() {
        sentence("4: the numbers of those behind it become less by 1");
        ChipGame x = Check.drawn(8);
        for (int e = 0; e < 20; e++) {
            x.addEdge(e % 7, e % 7 + 1);
        }
        due("removeEdge(12)", x.removeEdge(12), 19);
        for (int e = 0; e < 19; e++) {
            due("first of " + e, x.edge(e, false), (e < 12 ? e : e + 1) % 7);
            due("second of " + e, x.edge(e, true), (e < 12 ? e : e + 1) % 7 + 1);
        }
        due("edge 19", x.edge(19, false), ChipGame.UNKNOWN);
        due("the last one", x.removeEdge(18), 18);
        due("the first one", x.removeEdge(0), 17);
        due("edge 0", x.edge(0, false), 1);
        due("edge 16", x.edge(16, false), 18 % 7);
    }

    private static void removeEdgeKeepsChips() {
        sentence("4: The chips stay.");
        ChipGame x = Check.drawn(3, 0, 1, 1, 2);
        Check.setAll(x, 3, 5);
        x.removeEdge(1);
        due("of a node without edges", x.chips(2), 5);
        x.removeEdge(0);
        due("chips", Check.digits(x), 35);
    }

    private static void removeEdgeRefusals() {
        sentence("4: Returns the number of edges then; UNKNOWN.");
        ChipGame x = Check.drawn(3, 0, 1, 1, 2);
        int[] wrong = {-1, 2, 19, 20, 256, Integer.MIN_VALUE, Integer.MAX_VALUE};
        for (int edge : wrong) {
            due("removeEdge(" + edge + ")", x.removeEdge(edge), ChipGame.UNKNOWN);
        }
        due("two are left", x.value(1), 2);
        due("the last one", x.removeEdge(1), 1);
        due("it is gone", x.removeEdge(1), ChipGame.UNKNOWN);
        due("the only one", x.removeEdge(0), 0);
        due("of none", x.removeEdge(0), ChipGame.UNKNOWN);
    }

    private static void setSinkTakesChips() {
        sentence("5: Its chips vanish; the old sink has none.");
        ChipGame x = Check.named("path3");
        Check.setAll(x, 4, 5);
        due("setSink(2)", x.setSink(2), 0);
        due("sum", x.value(4), 4);
        due("old sink", x.chips(0), 0);
        due("the other", x.chips(1), 4);
        due("new sink", x.chips(2), ChipGame.UNKNOWN);
        x.setChips(0, 3);
        due("back", x.setSink(0), 2);
        due("old sink", x.chips(2), 0);
        due("sum", x.value(4), 4);
        x.fire(1);
        x.setSink(1);
        due("chips that came to the sink", x.chips(0), 0);
    }

    private static void setSinkForgets() {
        sentence("5: Nothing can be undone then.");
        ChipGame x = Check.named("path3");
        Check.setAll(x, 4, 5);
        x.setSink(1);
        due("undoable", x.value(5), 0);
        due("undo", x.undo(), ChipGame.NONE);
    }

    private static void setSinkToTheSink() {
        sentence("5: (If it is the sink already, nothing changes.)");
        ChipGame x = Check.named("path3");
        x.setSink(2);
        Check.setAll(x, 4, 5);
        x.keep(0);
        due("setSink(2)", x.setSink(2), 2);
        due("chips", Check.digits(x), 45);
        due("slot", x.keep(0), 0);
        due("undo", x.undo(), 1);
        due("chips", Check.digits(x), 40);
    }

    private static void setSinkRefusals() {
        sentence("5: Returns the previous sink; UNKNOWN.");
        ChipGame x = Check.named("cycle8");
        due("the last node", x.setSink(7), 0);
        int[] wrong = {-1, 8, 256, Integer.MIN_VALUE, Integer.MAX_VALUE};
        for (int node : wrong) {
            due("setSink(" + node + ")", x.setSink(node), ChipGame.UNKNOWN);
            due("sink", x.value(2), 7);
        }
        due("the first node", x.setSink(0), 7);
        ChipGame small = new ChipGame();
        due("node n", small.setSink(2), ChipGame.UNKNOWN);
    }

    // ---- promises 6 to 8, Description: Text

    private static void typeAnyCharacter() {
        sentence("6: character: any character");
        ChipGame x = new ChipGame();
        char[] signs = {'\0', ' ', '9', '\n', (char) 127, (char) 128, (char) 255, (char) 256, '\ud800', '\uffff'};
        for (int i = 0; i < signs.length; i++) {
            due("type((char) " + (int) signs[i] + ")", x.type(signs[i]), i + 1);
        }
        due("length", x.clearText(), signs.length);
    }

    private static void typeRefusals() {
        sentence("6: Returns the length of the text then; FULL if it has 12 characters.");
        ChipGame x = new ChipGame();
        for (int length = 1; length <= 12; length++) {
            due("type", x.type('q'), length);
        }
        due("the thirteenth", x.type('q'), ChipGame.FULL);
        due("once more", x.type('q'), ChipGame.FULL);
        due("length", x.clearText(), 12);
        due("after clearText()", x.type('q'), 1);
    }

    private static void clearText() {
        sentence("7: Returns the length that it had.");
        ChipGame x = new ChipGame();
        due("empty", x.clearText(), 0);
        x.type('a');
        due("one", x.clearText(), 1);
        sentence("7: Empties the text.");
        due("emptied", x.clearText(), 0);
        Check.typeText(x, "wheel");
        x.clearText();
        Check.typeText(x, "path4");
        due("readGraph", x.readGraph(), 3);
        x.clearText();
        due("readGraph of nothing", x.readGraph(), ChipGame.BAD_TEXT);
    }

    private static void textsOfTwelve() {
        sentence("A text of at most 12 characters is the name of a graph");
        refused("pathpathpath");
        refused("complete4   ");
        refused("complete0004");
        refused("   complete4");
        ChipGame x = new ChipGame();
        Check.typeText(x, "path2345678901");
        due("readGraph", x.readGraph(), ChipGame.BAD_TEXT);
        due("length", x.clearText(), 12);
    }

    private static void refused(String text) {
        ChipGame x = new ChipGame();
        Check.typeText(x, text);
        due("readGraph() of \"" + text + "\"", x.readGraph(), ChipGame.BAD_TEXT);
        due("nodes after \"" + text + "\"", x.value(0), 2);
    }

    private static void nothingElse() {
        sentence("directly followed by a digit for its number of nodes k, and nothing else (no blanks)");
        String[] texts = {"", "5", "path", "path 5", " path5", "path5 ", "path05", "path5\n", "path55", "path-5",
            "path+5", "pathV", "Path5", "PATH5", "pat5", "ath5", "paths5", "5path", "path5path", "path/", "path:",
            "path\u0665", "patx5", "cyclx5", "completx5", "stax5", "wheex5", "cycl5", "circle5",
            "complet5", "complete 5", "complete05", "sta5", "stars5", "whee5",
            "wheels5", "starwheel5", "path\0", "\0path5", "path5\0"};
        for (String text : texts) {
            refused(text);
        }
    }

    /** The numbers of nodes of a shape, and how many edges each of the graphs has. */
    private static void sizes(String name, int least, int most, int... edges) {
        for (int k = 0; k <= 9; k++) {
            ChipGame x = new ChipGame();
            Check.typeText(x, name + k);
            boolean allowed = k >= least && k <= most;
            due(name + k, x.readGraph(), allowed ? edges[k - least] : ChipGame.BAD_TEXT);
            due("nodes of " + name + k, x.value(0), allowed ? k : 2);
        }
    }

    private static void ends(String text, int... want) {
        ChipGame x = Check.named(text);
        due("edges of " + text, x.value(1), want.length / 2);
        for (int i = 0; i < want.length; i++) {
            due("end " + i + " of " + text, x.edge(i / 2, i % 2 == 1), want[i]);
        }
    }

    private static void paths() {
        sentence("path: 0-1, 1-2, and so on up to (k - 2)-(k - 1), with k from 2 to 8");
        sizes("path", 2, 8, 1, 2, 3, 4, 5, 6, 7);
        ends("path2", 0, 1);
        ends("path3", 0, 1, 1, 2);
        ends("path8", 0, 1, 1, 2, 2, 3, 3, 4, 4, 5, 5, 6, 6, 7);
    }

    private static void cycles() {
        sentence("cycle: as path, then (k - 1)-0, with k from 3 to 8");
        sizes("cycle", 3, 8, 3, 4, 5, 6, 7, 8);
        ends("cycle3", 0, 1, 1, 2, 2, 0);
        ends("cycle8", 0, 1, 1, 2, 2, 3, 3, 4, 4, 5, 5, 6, 6, 7, 7, 0);
    }

    private static void completes() {
        sentence("complete: all pairs, in the order of the lower and then of the higher number, with k from 2 to 6");
        sizes("complete", 2, 6, 1, 3, 6, 10, 15);
        ends("complete2", 0, 1);
        ends("complete3", 0, 1, 0, 2, 1, 2);
        ends("complete6", 0, 1, 0, 2, 0, 3, 0, 4, 0, 5, 1, 2, 1, 3, 1, 4, 1, 5, 2, 3, 2, 4, 2, 5, 3, 4, 3, 5, 4, 5);
    }

    private static void stars() {
        sentence("star: 0-1, 0-2, up to 0-(k - 1), with k from 2 to 8");
        sizes("star", 2, 8, 1, 2, 3, 4, 5, 6, 7);
        ends("star2", 0, 1);
        ends("star8", 0, 1, 0, 2, 0, 3, 0, 4, 0, 5, 0, 6, 0, 7);
    }

    private static void wheels() {
        sentence("wheel: as star, then 1-2, 2-3, up to (k - 2)-(k - 1), then (k - 1)-1, with k from 4 to 8");
        sizes("wheel", 4, 8, 6, 8, 10, 12, 14);
        ends("wheel4", 0, 1, 0, 2, 0, 3, 1, 2, 2, 3, 3, 1);
        ends("wheel8", 0, 1, 0, 2, 0, 3, 0, 4, 0, 5, 0, 6, 0, 7, 1, 2, 2, 3, 3, 4, 4, 5, 5, 6, 6, 7, 7, 1);
    }

    private static void readGraphStartsAnew() {
        sentence("8: Starts anew, as by reset(), with the graph that is named by the text.");
        ChipGame x = new ChipGame();
        Check.typeText(x, "path3");
        x.reset(8);
        Check.fill(x, 6, 7);
        x.setSink(7);
        Check.setAll(x, 1, 2, 3, 4, 5, 6, 7);
        due("readGraph", x.readGraph(), 2);
        due("nodes", x.value(0), 3);
        due("edge 2", x.edge(2, false), ChipGame.UNKNOWN);
        due("degree", x.degree(2), 1);
        due("sink", x.value(2), 0);
        due("chips", Check.digits(x), 0);
        due("undo", x.undo(), ChipGame.NONE);
    }

    private static void readGraphKeepsTheText() {
        sentence("8: The text stays.");
        ChipGame x = Check.named("wheel6");
        due("again", x.readGraph(), 10);
        due("length", x.clearText(), 6);
    }

    private static void readGraphRefusals() {
        sentence("8: Returns the number of edges; BAD_TEXT.");
        ChipGame x = Check.named("star2");
        x.setChips(1, 6);
        x.type('2');
        due("star22", x.readGraph(), ChipGame.BAD_TEXT);
        due("edges stay", x.value(1), 1);
        due("chips stay", x.chips(1), 6);
        x.clearText();
        due("no text", x.readGraph(), ChipGame.BAD_TEXT);
        due("undoable stay", x.undo(), 0);
    }

    // ---- promises 9 to 11

    private static void valueRange() {
        sentence("9: Returns the number; BAD_VALUE.");
        ChipGame x = Check.named("cycle4");
        int[] wrong = {-1, 7, 8, 256, 65536, Integer.MIN_VALUE, Integer.MAX_VALUE};
        for (int what : wrong) {
            due("value(" + what + ")", x.value(what), ChipGame.BAD_VALUE);
        }
        int[] want = {4, 4, 0, 1, 0, 0, 2};
        for (int what = 0; what < want.length; what++) {
            due("value(" + what + ")", x.value(what), want[what]);
        }
    }

    private static void valueConnected() {
        sentence("9: 3 for whether the graph is connected (1, otherwise 0)");
        ChipGame x = new ChipGame();
        due("new", x.value(3), 1);
        x.removeEdge(0);
        due("no edges", x.value(3), 0);
        x.addEdge(1, 0);
        due("1-0", x.value(3), 1);
        x.reset(2);
        due("reset", x.value(3), 0);
    }

    private static void valueSum() {
        sentence("9: 4 for the sum of all chips");
        ChipGame x = Check.named("star8");
        due("none", x.value(4), 0);
        Check.setAll(x, 1000, 1000, 1000, 1000, 1000, 1000, 1000);
        due("all", x.value(4), 7000);
        x.keep(0);
        x.add(0);
        due("twice", x.value(4), 14000);
        x.fire(7);
        due("one vanished", x.value(4), 13999);
        x.setSink(1);
        due("a node's vanished", x.value(4), 11999);
    }

    private static void valueUndoable() {
        sentence("9: 5 for how many states can be undone");
        ChipGame x = new ChipGame();
        for (int calls = 0; calls <= 15; calls++) {
            due("after " + calls, x.value(5), Math.min(calls, 12));
            x.setChips(1, calls);
        }
        x.undo();
        due("after undo()", x.value(5), 11);
    }

    private static void valueAway() {
        sentence("9: 6 for the number of edges that are not at the sink");
        due("star", Check.named("star6").value(6), 0);
        due("no edges", Check.drawn(3).value(6), 0);
        due("unconnected", Check.drawn(3, 1, 2, 2, 1).value(6), 2);
        ChipGame x = Check.named("star6");
        x.setSink(5);
        due("star with another sink", x.value(6), 4);
        x.addEdge(5, 0);
        due("two edges at the sink", x.value(6), 4);
    }

    private static void degreeRefusals() {
        sentence("10: Returns its degree; UNKNOWN.");
        ChipGame x = Check.named("wheel8");
        due("sink", x.degree(0), 7);
        due("last node", x.degree(7), 3);
        int[] wrong = {-1, 8, 256, Integer.MIN_VALUE, Integer.MAX_VALUE};
        for (int node : wrong) {
            due("degree(" + node + ")", x.degree(node), ChipGame.UNKNOWN);
        }
        x.reset(3);
        due("node n", x.degree(3), ChipGame.UNKNOWN);
        due("last node", x.degree(2), 0);
    }

    private static void edgeEnds() {
        sentence("11: second: false for the first of both nodes, as they were given, true for the second one");
        ChipGame x = Check.drawn(3, 2, 1, 1, 2, 0, 2, 2, 0);
        int[] want = {2, 1, 1, 2, 0, 2, 2, 0};
        for (int i = 0; i < want.length; i++) {
            due("end " + i, x.edge(i / 2, i % 2 == 1), want[i]);
        }
        x.setSink(2);
        due("with another sink", x.edge(0, false), 2);
    }

    private static void edgeRefusals() {
        sentence("11: Returns the node; UNKNOWN.");
        ChipGame x = Check.drawn(2, 0, 1, 1, 0);
        int[] wrong = {-1, 2, 19, 20, 256, Integer.MIN_VALUE, Integer.MAX_VALUE};
        for (int edge : wrong) {
            due("edge(" + edge + ", false)", x.edge(edge, false), ChipGame.UNKNOWN);
            due("edge(" + edge + ", true)", x.edge(edge, true), ChipGame.UNKNOWN);
        }
        x.removeEdge(1);
        due("removed", x.edge(1, true), ChipGame.UNKNOWN);
        x.removeEdge(0);
        due("none", x.edge(0, false), ChipGame.UNKNOWN);
    }
}
