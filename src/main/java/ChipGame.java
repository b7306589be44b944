/**
 * Chip games on a graph. Every answer, every error and every change of state is told by the
 * document's promises; the number before each public method is that of its promise.
 */
public final class ChipGame {
    public static final int UNKNOWN = -10001;
    public static final int BAD_VALUE = -10002;
    public static final int NOT_CONNECTED = -10003;
    public static final int NOT_POSSIBLE = -10004;
    public static final int FULL = -10005;
    public static final int BAD_TEXT = -10006;
    public static final int NONE = -10007;
    public static final long NO_VALUE = Long.MIN_VALUE;

    private static final int LEAST_NODES = 2;
    private static final int MOST_NODES = 8;
    private static final int MOST_EDGES = 20;
    private static final int MOST_SIGNS = 12;
    private static final int MOST_STATES = 12;
    private static final int SLOT_COUNT = 3;
    private static final int MOST_SET = 1000;
    private static final int MOST_ADDED = 2000;

    // No run of 512 calls comes near this: the longest stabilizing has fewer firings.
    private static final int MOST_STEPS = 1000000;

    private final Graph graph = new Graph();
    private final Text text = new Text();
    private final History history = new History();
    private final Slots slots = new Slots();
    private final Burning burning = new Burning(graph);
    private final Firing firing = new Firing(graph, burning);
    private final Matrix matrix = new Matrix(graph);
    private final Trees trees = new Trees(graph, matrix);
    private final Levels levels = new Levels(graph);

    // Entries of the sink, and those behind the last node, are always 0.
    private final int[] state = new int[MOST_NODES];
    private final int[] copy = new int[MOST_NODES];
    private final int[] otherCopy = new int[MOST_NODES];

    /** 1 */
    public ChipGame() {
        graph.clear(LEAST_NODES);
        graph.append(0, 1);
    }

    // ---- graph

    /** 2 */
    public int reset(int nodes) {
        if (nodes < LEAST_NODES || nodes > MOST_NODES) {
            return BAD_VALUE;
        }
        int before = graph.nodes;
        startAnew(nodes);
        return before;
    }

    /** 3 */
    public int addEdge(int u, int v) {
        if (!graph.hasNode(u) || !graph.hasNode(v)) {
            return UNKNOWN;
        }
        if (u == v) {
            return BAD_VALUE;
        }
        if (graph.edges >= MOST_EDGES) {
            return FULL;
        }
        graph.append(u, v);
        forgetStates();
        return graph.edges - 1;
    }

    /** 4 */
    public int removeEdge(int edge) {
        if (!graph.hasEdge(edge)) {
            return UNKNOWN;
        }
        graph.drop(edge);
        forgetStates();
        return graph.edges;
    }

    /** 5 */
    public int setSink(int node) {
        if (!graph.hasNode(node)) {
            return UNKNOWN;
        }
        int before = graph.sink;
        if (node != before) {
            graph.sink = node;
            state[node] = 0;
            forgetStates();
        }
        return before;
    }

    /** 6 */
    public int type(char character) {
        if (text.length >= MOST_SIGNS) {
            return FULL;
        }
        text.append(character);
        return text.length;
    }

    /** 7 */
    public int clearText() {
        int before = text.length;
        text.length = 0;
        return before;
    }

    /** 8 */
    public int readGraph() {
        int shape = text.findShape();
        int nodes = text.lastDigit();
        if (!Shapes.allows(shape, nodes)) {
            return BAD_TEXT;
        }
        startAnew(nodes);
        Shapes.draw(graph, shape, nodes);
        return graph.edges;
    }

    /** 9 */
    public int value(int what) {
        switch (what) {
            case 0:
                return graph.nodes;
            case 1:
                return graph.edges;
            case 2:
                return graph.sink;
            case 3:
                return graph.isConnected() ? 1 : 0;
            case 4:
                return sumOf(state);
            case 5:
                return history.count;
            case 6:
                return graph.edgesAwayFromSink();
            default:
                return BAD_VALUE;
        }
    }

    /** 10 */
    public int degree(int node) {
        return graph.hasNode(node) ? graph.degreeOf(node) : UNKNOWN;
    }

    /** 11 */
    public int edge(int edge, boolean second) {
        if (!graph.hasEdge(edge)) {
            return UNKNOWN;
        }
        return second ? graph.second[edge] : graph.first[edge];
    }

    // ---- chips

    /** 12 */
    public int setChips(int node, int chips) {
        if (!graph.hasChipsAt(node)) {
            return UNKNOWN;
        }
        if (chips < 0 || chips > MOST_SET) {
            return BAD_VALUE;
        }
        history.record(state);
        int before = state[node];
        state[node] = chips;
        return before;
    }

    /** 13 */
    public int chips(int node) {
        return graph.hasChipsAt(node) ? state[node] : UNKNOWN;
    }

    /** 14 */
    public int fire(int node) {
        if (!graph.hasChipsAt(node)) {
            return UNKNOWN;
        }
        if (!firing.canFire(state, node)) {
            return NOT_POSSIBLE;
        }
        history.record(state);
        firing.give(state, node, 1);
        return state[node];
    }

    /** 15 */
    public int stabilize() {
        if (!graph.isConnected()) {
            return NOT_CONNECTED;
        }
        history.record(state);
        return firing.settle(state);
    }

    /** 16 */
    public int firings(int node) {
        if (!graph.hasChipsAt(node)) {
            return UNKNOWN;
        }
        if (!graph.isConnected()) {
            return NOT_CONNECTED;
        }
        copyChips(state, copy);
        firing.settle(copy);
        return firing.times[node];
    }

    /** 17 */
    public int reduce() {
        if (!graph.isConnected()) {
            return NOT_CONNECTED;
        }
        history.record(state);
        firing.settle(state);
        return firing.fireSets(state);
    }

    /** 18 */
    public int makeRecurrent() {
        if (!graph.isConnected()) {
            return NOT_CONNECTED;
        }
        history.record(state);
        copyChips(state, copy);
        firing.toRecurrent(state);
        return isEqual(state, copy) ? 0 : 1;
    }

    /** 19 */
    public int kind() {
        int sum = firing.isStable(state) ? 1 : 0;
        if (isRecurrent()) {
            sum += 2;
        }
        if (graph.isConnected() && burning.allBurnBySecondRule(state)) {
            sum += 4;
        }
        return sum;
    }

    /** 20 */
    public int burnt(int node) {
        if (!graph.hasNode(node)) {
            return UNKNOWN;
        }
        burning.allBurn(state);
        return burning.hasBurnt(node) ? burning.round[node] : NONE;
    }

    /** 21 */
    public int undo() {
        if (history.count == 0) {
            return NONE;
        }
        history.takeBack(state);
        return history.count;
    }

    // ---- slots

    /** 22 */
    public int keep(int slot) {
        if (!slots.has(slot)) {
            return UNKNOWN;
        }
        int answer = slots.isEmpty(slot) ? 1 : 0;
        slots.put(slot, state);
        return answer;
    }

    /** 23 */
    public int load(int slot) {
        if (!slots.has(slot)) {
            return UNKNOWN;
        }
        if (slots.isEmpty(slot)) {
            return NOT_POSSIBLE;
        }
        history.record(state);
        slots.copyTo(slot, state);
        return sumOf(state);
    }

    /** 24 */
    public int add(int slot) {
        if (!slots.has(slot)) {
            return UNKNOWN;
        }
        if (slots.isEmpty(slot)) {
            return NOT_POSSIBLE;
        }
        slots.copyTo(slot, copy);
        for (int v = 0; v < MOST_NODES; v++) {
            copy[v] += state[v];
            if (copy[v] > MOST_ADDED) {
                return FULL;
            }
        }
        history.record(state);
        copyChips(copy, state);
        return sumOf(state);
    }

    /** 25 */
    public int isSameClass(int slot) {
        if (!slots.has(slot)) {
            return UNKNOWN;
        }
        if (slots.isEmpty(slot)) {
            return NOT_POSSIBLE;
        }
        if (!graph.isConnected()) {
            return NOT_CONNECTED;
        }
        copyChips(state, copy);
        slots.copyTo(slot, otherCopy);
        firing.toRecurrent(copy);
        firing.toRecurrent(otherCopy);
        return isEqual(copy, otherCopy) ? 1 : 0;
    }

    // ---- group

    /** 26 */
    public long treeCount() {
        return trees.count(0, 0);
    }

    /** 27 */
    public int identity(int node) {
        if (!graph.hasChipsAt(node)) {
            return UNKNOWN;
        }
        if (!graph.isConnected()) {
            return NOT_CONNECTED;
        }
        clearChips(copy);
        firing.toRecurrent(copy);
        return copy[node];
    }

    /** 28 */
    public int order() {
        if (!graph.isConnected()) {
            return NOT_CONNECTED;
        }
        return (int) matrix.orderOf(state);
    }

    /** 29 */
    public long factor(int k) {
        if (k < -1 || !graph.isConnected()) {
            return NO_VALUE;
        }
        matrix.findFactors();
        if (k == -1) {
            return matrix.factorCount;
        }
        return k < matrix.factorCount ? matrix.factors[k] : NO_VALUE;
    }

    /** 30 */
    public int level() {
        if (!isRecurrent()) {
            return NOT_POSSIBLE;
        }
        return sumOf(state) - graph.edgesAwayFromSink();
    }

    /** 31 */
    public int levelCount(int level) {
        if (level < 0) {
            return BAD_VALUE;
        }
        if (!graph.isConnected()) {
            return NOT_CONNECTED;
        }
        return (int) levels.countAt(level);
    }

    // ---- trees

    /** 32 */
    public int tree() {
        if (!isRecurrent()) {
            return NOT_POSSIBLE;
        }
        return trees.treeOf(state);
    }

    /** 33 */
    public int takeTree(int tree) {
        if (!graph.isSpanningTree(tree)) {
            return BAD_VALUE;
        }
        history.record(state);
        trees.toStateOf(tree, state);
        return sumOf(state);
    }

    /** 34 */
    public int treeAt(int k) {
        if (k < 0) {
            return BAD_VALUE;
        }
        if (k >= trees.count(0, 0)) {
            return NONE;
        }
        return trees.treeNumbered(k);
    }

    // ---- parts of the above

    private void startAnew(int nodes) {
        graph.clear(nodes);
        clearChips(state);
        forgetStates();
    }

    private void forgetStates() {
        history.forgetAll();
        slots.forgetAll();
    }

    private boolean isRecurrent() {
        return firing.isStable(state) && graph.isConnected() && burning.allBurn(state);
    }

    private static int sumOf(int[] chips) {
        int sum = 0;
        for (int v = 0; v < chips.length; v++) {
            sum += chips[v];
        }
        return sum;
    }

    private static void clearChips(int[] chips) {
        for (int v = 0; v < chips.length; v++) {
            chips[v] = 0;
        }
    }

    private static void copyChips(int[] from, int[] to) {
        for (int v = 0; v < from.length && v < to.length; v++) {
            to[v] = from[v];
        }
    }

    private static boolean isEqual(int[] a, int[] b) {
        for (int v = 0; v < a.length && v < b.length; v++) {
            if (a[v] != b[v]) {
                return false;
            }
        }
        return true;
    }

    /** The nodes, the sink, and the edges in the order in which they were added. */
    private static final class Graph {
        int nodes = LEAST_NODES;
        int edges = 0;
        int sink = 0;
        final int[] first = new int[MOST_EDGES];
        final int[] second = new int[MOST_EDGES];
        // How many edges join two nodes, and how many are at one.
        final int[][] joining = new int[MOST_NODES][MOST_NODES];
        final int[] degrees = new int[MOST_NODES];
        // What findParts() found: nodes of the same part have the same label.
        final int[] labels = new int[MOST_NODES];

        void clear(int newNodes) {
            nodes = newNodes;
            edges = 0;
            sink = 0;
            for (int u = 0; u < MOST_NODES; u++) {
                degrees[u] = 0;
                for (int v = 0; v < MOST_NODES; v++) {
                    joining[u][v] = 0;
                }
            }
        }

        boolean hasNode(int node) {
            return node >= 0 && node < nodes && node < MOST_NODES;
        }

        boolean hasChipsAt(int node) {
            return hasNode(node) && node != sink;
        }

        boolean hasEdge(int edge) {
            return edge >= 0 && edge < edges && edge < MOST_EDGES;
        }

        int degreeOf(int node) {
            return hasNode(node) ? degrees[node] : 0;
        }

        void append(int u, int v) {
            if (!hasNode(u) || !hasNode(v) || edges < 0 || edges >= MOST_EDGES) {
                return;
            }
            first[edges] = u;
            second[edges] = v;
            edges++;
            countJoining(u, v, 1);
        }

        void drop(int edge) {
            if (!hasEdge(edge)) {
                return;
            }
            countJoining(first[edge], second[edge], -1);
            for (int e = edge; e + 1 < edges; e++) {
                first[e] = first[e + 1];
                second[e] = second[e + 1];
            }
            edges--;
        }

        private void countJoining(int u, int v, int change) {
            if (!hasNode(u) || !hasNode(v)) {
                return;
            }
            joining[u][v] += change;
            joining[v][u] += change;
            degrees[u] += change;
            degrees[v] += change;
        }

        int edgesAwayFromSink() {
            return edges - degreeOf(sink);
        }

        int allEdges() {
            return (1 << edges) - 1;
        }

        boolean isConnected() {
            return findParts(allEdges()) == 1;
        }

        boolean isSpanningTree(int edgeSet) {
            return edgeSet >= 0 && (edgeSet & ~allEdges()) == 0
                    && Integer.bitCount(edgeSet) == nodes - 1 && findParts(edgeSet) == 1;
        }

        /** Labels the parts into which the edges of the set join the nodes; answers how many. */
        int findParts(int edgeSet) {
            for (int v = 0; v < nodes; v++) {
                labels[v] = v;
            }
            int parts = nodes;
            for (int e = 0; e < edges; e++) {
                int keptLabel = labels[first[e]];
                int lostLabel = labels[second[e]];
                if ((edgeSet >> e & 1) != 0 && keptLabel != lostLabel) {
                    relabel(lostLabel, keptLabel);
                    parts--;
                }
            }
            return parts;
        }

        private void relabel(int lostLabel, int keptLabel) {
            for (int v = 0; v < nodes; v++) {
                if (labels[v] == lostLabel) {
                    labels[v] = keptLabel;
                }
            }
        }
    }

    /** The text that is typed. */
    private static final class Text {
        int length = 0;
        private final char[] signs = new char[MOST_SIGNS];

        void append(char sign) {
            if (length >= 0 && length < signs.length) {
                signs[length] = sign;
                length++;
            }
        }

        /** The shape whose name is all of the text but its last sign, or -1. */
        int findShape() {
            for (int shape = 0; shape < Shapes.COUNT; shape++) {
                if (isNameAndSign(Shapes.nameOf(shape))) {
                    return shape;
                }
            }
            return -1;
        }

        private boolean isNameAndSign(String name) {
            if (length != name.length() + 1) {
                return false;
            }
            for (int i = 0; i < name.length() && i < signs.length; i++) {
                if (signs[i] != name.charAt(i)) {
                    return false;
                }
            }
            return true;
        }

        /** The digit at the end of the text, or -1. */
        int lastDigit() {
            if (length < 1 || length > signs.length) {
                return -1;
            }
            char sign = signs[length - 1];
            return sign >= '0' && sign <= '9' ? sign - '0' : -1;
        }
    }

    /** The graphs that have names. */
    private static final class Shapes {
        static final int COUNT = 5;
        private static final int PATH = 0;
        private static final int CYCLE = 1;
        private static final int COMPLETE = 2;
        private static final int STAR = 3;
        private static final int WHEEL = 4;
        private static final int[] LEAST = {2, 3, 2, 2, 4};
        private static final int[] MOST = {8, 8, 6, 8, 8};

        static String nameOf(int shape) {
            switch (shape) {
                case PATH:
                    return "path";
                case CYCLE:
                    return "cycle";
                case COMPLETE:
                    return "complete";
                case STAR:
                    return "star";
                case WHEEL:
                    return "wheel";
                default:
                    return "";
            }
        }

        static boolean allows(int shape, int nodes) {
            return shape >= 0 && shape < LEAST.length && shape < MOST.length
                    && nodes >= LEAST[shape] && nodes <= MOST[shape];
        }

        static void draw(Graph graph, int shape, int nodes) {
            switch (shape) {
                case PATH:
                    drawPath(graph, 0, nodes - 1);
                    break;
                case CYCLE:
                    drawPath(graph, 0, nodes - 1);
                    graph.append(nodes - 1, 0);
                    break;
                case COMPLETE:
                    for (int u = 0; u < nodes; u++) {
                        drawRays(graph, u, nodes);
                    }
                    break;
                case STAR:
                    drawRays(graph, 0, nodes);
                    break;
                case WHEEL:
                    drawRays(graph, 0, nodes);
                    drawPath(graph, 1, nodes - 1);
                    graph.append(nodes - 1, 1);
                    break;
                default:
                    break;
            }
        }

        private static void drawPath(Graph graph, int from, int to) {
            for (int v = from; v < to; v++) {
                graph.append(v, v + 1);
            }
        }

        private static void drawRays(Graph graph, int center, int nodes) {
            for (int v = center + 1; v < nodes; v++) {
                graph.append(center, v);
            }
        }
    }

    /** The states that can be undone, in a ring, so that the oldest one is dropped in place. */
    private static final class History {
        int count = 0;
        private int oldest = 0;
        private final int[][] states = new int[MOST_STATES][MOST_NODES];

        void record(int[] state) {
            if (count == MOST_STATES) {
                oldest = (oldest + 1) % MOST_STATES;
                count--;
            }
            copyChips(state, states[(oldest + count) % MOST_STATES]);
            count++;
        }

        void takeBack(int[] state) {
            if (count > 0) {
                count--;
                copyChips(states[(oldest + count) % MOST_STATES], state);
            }
        }

        void forgetAll() {
            count = 0;
            oldest = 0;
        }
    }

    /** The places where states are kept. */
    private static final class Slots {
        private final boolean[] taken = new boolean[SLOT_COUNT];
        private final int[][] states = new int[SLOT_COUNT][MOST_NODES];

        boolean has(int slot) {
            return slot >= 0 && slot < SLOT_COUNT;
        }

        boolean isEmpty(int slot) {
            return !has(slot) || !taken[slot];
        }

        void put(int slot, int[] state) {
            if (has(slot)) {
                copyChips(state, states[slot]);
                taken[slot] = true;
            }
        }

        void copyTo(int slot, int[] state) {
            if (has(slot)) {
                copyChips(states[slot], state);
            }
        }

        void forgetAll() {
            for (int slot = 0; slot < SLOT_COUNT; slot++) {
                taken[slot] = false;
            }
        }
    }

    /** The two burning tests: by both rules a node burns that has enough edges to burnt ones. */
    private static final class Burning {
        private static final int NEVER = -1;
        final int[] round = new int[MOST_NODES];
        private final int[] needed = new int[MOST_NODES];
        private final Graph graph;

        Burning(Graph graph) {
            this.graph = graph;
        }

        boolean hasBurnt(int node) {
            return graph.hasNode(node) && round[node] != NEVER;
        }

        /** Burns by the first rule; answers whether all nodes burn. */
        boolean allBurn(int[] chips) {
            for (int v = 0; v < graph.nodes; v++) {
                needed[v] = graph.degreeOf(v) - chips[v];
            }
            return spreadFire();
        }

        /** Burns by the rule of superstable states; answers whether all nodes burn. */
        boolean allBurnBySecondRule(int[] chips) {
            for (int v = 0; v < graph.nodes; v++) {
                needed[v] = chips[v] + 1;
            }
            return spreadFire();
        }

        private boolean spreadFire() {
            for (int v = 0; v < graph.nodes; v++) {
                round[v] = v == graph.sink ? 0 : NEVER;
            }
            int burnt = 1;
            // Each round but the last burns a node, so there are no more rounds than nodes.
            for (int now = 1; now <= graph.nodes; now++) {
                burnt += burnRound(now);
            }
            return burnt == graph.nodes;
        }

        private int burnRound(int now) {
            int burnt = 0;
            for (int v = 0; v < graph.nodes; v++) {
                if (round[v] == NEVER && edgesToBurnt(v, now) >= needed[v]) {
                    round[v] = now;
                    burnt++;
                }
            }
            return burnt;
        }

        private int edgesToBurnt(int node, int now) {
            int sum = 0;
            for (int v = 0; v < graph.nodes; v++) {
                if (round[v] != NEVER && round[v] < now) {
                    sum += graph.joining[node][v];
                }
            }
            return sum;
        }
    }

    /** What moves chips. */
    private static final class Firing {
        // How often each node fired in the latest stabilizing.
        final int[] times = new int[MOST_NODES];
        private final Graph graph;
        private final Burning burning;

        Firing(Graph graph, Burning burning) {
            this.graph = graph;
            this.burning = burning;
        }

        boolean canFire(int[] chips, int node) {
            int degree = graph.degreeOf(node);
            return graph.hasChipsAt(node) && degree > 0 && chips[node] >= degree;
        }

        boolean isStable(int[] chips) {
            for (int v = 0; v < graph.nodes; v++) {
                if (canFire(chips, v)) {
                    return false;
                }
            }
            return true;
        }

        /** Gives chips along each edge at a node, as by firing it so many times. */
        void give(int[] chips, int node, int often) {
            if (!graph.hasNode(node)) {
                return;
            }
            for (int v = 0; v < graph.nodes; v++) {
                giveAlong(chips, node, v, often);
            }
        }

        private void giveAlong(int[] chips, int from, int to, int often) {
            int moved = often * graph.joining[from][to];
            chips[from] -= moved;
            if (to != graph.sink) {
                chips[to] += moved;
            }
        }

        /** Stabilizes, as only a connected graph allows; answers the number of firings. */
        int settle(int[] chips) {
            clearChips(times);
            int all = 0;
            int fired = 1;
            for (int sweep = 0; fired > 0 && sweep < MOST_STEPS; sweep++) {
                fired = 0;
                for (int v = 0; v < graph.nodes; v++) {
                    fired += fireWhilePossible(chips, v);
                }
                all += fired;
            }
            return all;
        }

        private int fireWhilePossible(int[] chips, int node) {
            int degree = graph.degreeOf(node);
            if (!canFire(chips, node) || degree <= 0) {
                return 0;
            }
            int often = chips[node] / degree;
            give(chips, node, often);
            times[node] += often;
            return often;
        }

        /** Makes set firings until the state is superstable; answers how many. */
        int fireSets(int[] chips) {
            int sets = 0;
            while (sets < MOST_STEPS && !burning.allBurnBySecondRule(chips)) {
                fireUnburnt(chips);
                sets++;
            }
            return sets;
        }

        private void fireUnburnt(int[] chips) {
            for (int u = 0; u < graph.nodes; u++) {
                for (int v = 0; v < graph.nodes; v++) {
                    if (!burning.hasBurnt(u) && burning.hasBurnt(v)) {
                        giveAlong(chips, u, v, 1);
                    }
                }
            }
        }

        /**
         * Replaces a state by the recurrent one of its class. A stable state is recurrent just
         * if its mirror image is superstable, so it is enough to reduce the mirror image.
         */
        void toRecurrent(int[] chips) {
            settle(chips);
            mirror(chips);
            fireSets(chips);
            mirror(chips);
        }

        private void mirror(int[] chips) {
            for (int v = 0; v < graph.nodes; v++) {
                if (v != graph.sink) {
                    chips[v] = graph.degreeOf(v) - 1 - chips[v];
                }
            }
        }
    }

    /**
     * The matrix of degrees and edges. It has a row for each node, but that of the sink (and of
     * each node that is merged into another) is a row of the unit matrix: so the nodes' numbers
     * need not be shifted, and neither the determinant nor the factors above 1 change.
     */
    private static final class Matrix {
        final long[] factors = new long[MOST_NODES];
        int factorCount = 0;
        private final Graph graph;
        // The column behind those of the nodes is the right side of the equations.
        private final long[][] cells = new long[MOST_NODES][MOST_NODES + 1];
        private int size = 0;

        Matrix(Graph graph) {
            this.graph = graph;
        }

        /** Fills in the graph without the banned edges, its nodes merged as they are labelled. */
        void fill(int banned) {
            size = graph.nodes;
            for (int i = 0; i < size; i++) {
                for (int j = 0; j <= size; j++) {
                    cells[i][j] = i == j && !isFree(i) ? 1 : 0;
                }
            }
            for (int e = 0; e < graph.edges; e++) {
                int a = graph.labels[graph.first[e]];
                int b = graph.labels[graph.second[e]];
                if ((banned >> e & 1) == 0 && a != b) {
                    fillEdge(a, b);
                }
            }
        }

        private void fillEdge(int a, int b) {
            if (isFree(a)) {
                cells[a][a]++;
            }
            if (isFree(b)) {
                cells[b][b]++;
            }
            if (isFree(a) && isFree(b)) {
                cells[a][b]--;
                cells[b][a]--;
            }
        }

        private boolean isFree(int node) {
            return graph.hasNode(node) && graph.labels[node] == node
                    && node != graph.labels[graph.sink];
        }

        private void fillWhole() {
            graph.findParts(0);
            fill(0);
        }

        /**
         * Makes the matrix diagonal, with its determinant in each place, by steps that leave
         * only whole numbers; the right side becomes the solution times the determinant. Answers
         * the determinant. A matrix of a graph in which a corner is 0 has the determinant 0.
         */
        long eliminate() {
            long last = 1;
            for (int k = 0; k < size; k++) {
                long pivot = cells[k][k];
                if (pivot == 0) {
                    return 0;
                }
                for (int i = 0; i < size; i++) {
                    if (i != k) {
                        combineRows(i, k, last);
                    }
                }
                last = pivot;
            }
            return last;
        }

        private void combineRows(int i, int k, long last) {
            if (last == 0) {
                return;
            }
            long pivot = cells[k][k];
            long times = cells[i][k];
            for (int j = 0; j <= size; j++) {
                cells[i][j] = (pivot * cells[i][j] - times * cells[k][j]) / last;
            }
        }

        /** How often a state has to be taken so that the solution becomes whole. */
        long orderOf(int[] chips) {
            fillWhole();
            for (int i = 0; i < size; i++) {
                cells[i][size] = chips[i];
            }
            long determinant = eliminate();
            long common = determinant;
            for (int i = 0; i < size; i++) {
                common = commonDivisor(common, cells[i][size]);
            }
            return common == 0 ? 0 : determinant / common;
        }

        /** Finds the factors of a connected graph. */
        void findFactors() {
            factorCount = 0;
            fillWhole();
            long modulus = eliminate();
            if (modulus <= 0) {
                return;
            }
            fillWhole();
            // The determinant times anything is 0 in the group, so that the cells need only be
            // known modulo it: this keeps them small.
            for (int i = 0; i < size; i++) {
                for (int j = 0; j < size; j++) {
                    cells[i][j] = Math.floorMod(cells[i][j], modulus);
                }
            }
            for (int t = 0; t < size; t++) {
                clearAround(t, modulus);
                long found = commonDivisor(cells[t][t], modulus);
                if (found > 1) {
                    factors[factorCount] = found;
                    factorCount++;
                }
            }
        }

        /** Makes row and column t 0 but for a corner that divides all that is behind it. */
        private void clearAround(int t, long modulus) {
            for (int step = 0; step < MOST_STEPS; step++) {
                if (!bringLeastToCorner(t)) {
                    return;
                }
                boolean isColumnClear = clearColumn(t, modulus);
                boolean isRowClear = clearRow(t, modulus);
                if (isColumnClear && isRowClear && !addUndividedRow(t, modulus)) {
                    return;
                }
            }
        }

        private boolean bringLeastToCorner(int t) {
            int row = -1;
            int column = -1;
            for (int i = t; i < size; i++) {
                for (int j = t; j < size; j++) {
                    boolean isLess = row < 0 || cells[i][j] < cells[row][column];
                    if (cells[i][j] != 0 && isLess) {
                        row = i;
                        column = j;
                    }
                }
            }
            if (row < 0) {
                return false;
            }
            swapRows(t, row);
            swapColumns(t, column);
            return true;
        }

        private void swapRows(int a, int b) {
            for (int j = 0; j < size; j++) {
                long kept = cells[a][j];
                cells[a][j] = cells[b][j];
                cells[b][j] = kept;
            }
        }

        private void swapColumns(int a, int b) {
            for (int i = 0; i < size; i++) {
                long kept = cells[i][a];
                cells[i][a] = cells[i][b];
                cells[i][b] = kept;
            }
        }

        private boolean clearColumn(int t, long modulus) {
            long corner = cells[t][t];
            boolean isClear = true;
            for (int i = t + 1; i < size && corner != 0; i++) {
                addRow(t, i, -(cells[i][t] / corner), modulus);
                if (cells[i][t] != 0) {
                    isClear = false;
                }
            }
            return isClear;
        }

        private boolean clearRow(int t, long modulus) {
            long corner = cells[t][t];
            boolean isClear = true;
            for (int j = t + 1; j < size && corner != 0; j++) {
                addColumn(t, j, -(cells[t][j] / corner), modulus);
                if (cells[t][j] != 0) {
                    isClear = false;
                }
            }
            return isClear;
        }

        private void addRow(int from, int to, long times, long modulus) {
            for (int j = 0; j < size && modulus != 0; j++) {
                cells[to][j] = Math.floorMod(cells[to][j] + times * cells[from][j], modulus);
            }
        }

        private void addColumn(int from, int to, long times, long modulus) {
            for (int i = 0; i < size && modulus != 0; i++) {
                cells[i][to] = Math.floorMod(cells[i][to] + times * cells[i][from], modulus);
            }
        }

        /** Adds to row t a row with a cell that the corner doesn't divide, if there is one. */
        private boolean addUndividedRow(int t, long modulus) {
            long corner = cells[t][t];
            for (int i = t + 1; i < size; i++) {
                for (int j = t + 1; j < size && corner != 0; j++) {
                    if (cells[i][j] % corner != 0) {
                        addRow(i, t, 1, modulus);
                        return true;
                    }
                }
            }
            return false;
        }

        private static long commonDivisor(long a, long b) {
            long large = Math.abs(a);
            long small = Math.abs(b);
            for (int step = 0; small != 0 && step < MOST_STEPS; step++) {
                long rest = large % small;
                large = small;
                small = rest;
            }
            return large;
        }
    }

    /** Spanning trees, and their pairing with recurrent states. */
    private static final class Trees {
        private final Graph graph;
        private final Matrix matrix;
        private final int[] used = new int[MOST_NODES];

        Trees(Graph graph, Matrix matrix) {
            this.graph = graph;
            this.matrix = matrix;
        }

        /** How many spanning trees have all wanted edges, which make no circle, and no banned. */
        long count(int wanted, int banned) {
            graph.findParts(wanted);
            matrix.fill(banned);
            return matrix.eliminate();
        }

        /**
         * The tree with a number. Of the trees that agree in the edges above one, those without
         * it come first, so that counting them tells whether the tree has it.
         */
        int treeNumbered(int k) {
            long rest = k;
            int wanted = 0;
            int banned = 0;
            for (int e = graph.edges - 1; e >= 0; e--) {
                int bit = 1 << e;
                long without = count(wanted, banned | bit);
                if (rest < without) {
                    banned |= bit;
                } else {
                    rest -= without;
                    wanted |= bit;
                }
            }
            return wanted;
        }

        int treeOf(int[] chips) {
            clearChips(used);
            int tree = 0;
            int taken = 0;
            int marked = 1 << graph.sink;
            for (int step = 0; step < graph.edges; step++) {
                int edge = lowestBorderEdge(marked, taken);
                if (!graph.hasEdge(edge)) {
                    break;
                }
                taken |= 1 << edge;
                int node = unmarkedEnd(edge, marked);
                used[node]++;
                if (used[node] > graph.degreeOf(node) - 1 - chips[node]) {
                    marked |= 1 << node;
                    tree |= 1 << edge;
                }
            }
            return tree;
        }

        /** Walks as treeOf() does; here the tree tells when a node is marked. */
        void toStateOf(int tree, int[] chips) {
            clearChips(used);
            int taken = 0;
            int marked = 1 << graph.sink;
            for (int step = 0; step < graph.edges; step++) {
                int edge = lowestBorderEdge(marked, taken);
                if (!graph.hasEdge(edge)) {
                    break;
                }
                taken |= 1 << edge;
                int node = unmarkedEnd(edge, marked);
                used[node]++;
                if ((tree >> edge & 1) != 0) {
                    marked |= 1 << node;
                    chips[node] = graph.degreeOf(node) - used[node];
                }
            }
        }

        /** The lowest edge that isn't taken and joins a marked and an unmarked node, or -1. */
        private int lowestBorderEdge(int marked, int taken) {
            for (int e = 0; e < graph.edges; e++) {
                boolean isBorder = isIn(marked, graph.first[e]) != isIn(marked, graph.second[e]);
                if (isBorder && !isIn(taken, e)) {
                    return e;
                }
            }
            return -1;
        }

        private int unmarkedEnd(int edge, int marked) {
            return isIn(marked, graph.first[edge]) ? graph.second[edge] : graph.first[edge];
        }

        private static boolean isIn(int set, int number) {
            return (set >> number & 1) != 0;
        }
    }

    /**
     * The numbers of recurrent states by level. They are the coefficients of T(1, y), where T is
     * the graph's Tutte polynomial (Merino), and the sum over all connected sets A of edges of
     * (y - 1) ^ |A| is T(1, y) times (y - 1) ^ (n - 1). That sum is easy to get: without "connected"
     * it is y ^ (number of edges), and from this is subtracted what belongs to each smaller set
     * of nodes as the part in which node 0 is.
     */
    private static final class Levels {
        private static final int LENGTH = MOST_EDGES + 1;
        private static final int SETS = 1 << MOST_NODES;
        private final Graph graph;
        private final int[] edgesInside = new int[SETS];
        // A polynomial for each set of nodes with node 0: the sum for the edges inside.
        private final long[][] sums = new long[SETS / 2][LENGTH];
        private final long[] counts = new long[LENGTH];

        Levels(Graph graph) {
            this.graph = graph;
        }

        long countAt(int level) {
            if (level < 0 || level >= LENGTH) {
                return 0;
            }
            countEdgesInside();
            int sets = 1 << graph.nodes;
            for (int set = 1; set < sets && set < SETS; set += 2) {
                sumConnected(set);
            }
            int last = (sets - 1) / 2;
            for (int i = 0; i < LENGTH; i++) {
                counts[i] = sums[last][i];
            }
            for (int step = 1; step < graph.nodes; step++) {
                divideByYMinusOne();
            }
            return counts[level];
        }

        private void countEdgesInside() {
            int sets = 1 << graph.nodes;
            for (int set = 0; set < sets && set < SETS; set++) {
                edgesInside[set] = 0;
                for (int e = 0; e < graph.edges; e++) {
                    edgesInside[set] += set >> graph.first[e] & set >> graph.second[e] & 1;
                }
            }
        }

        private void sumConnected(int set) {
            long[] sum = sums[set / 2];
            for (int i = 0; i < LENGTH; i++) {
                sum[i] = i == edgesInside[set] ? 1 : 0;
            }
            for (int part = 1; part < set; part += 2) {
                if ((part & ~set) == 0) {
                    subtractShifted(sum, sums[part / 2], edgesInside[set & ~part]);
                }
            }
        }

        private static void subtractShifted(long[] from, long[] what, int shift) {
            for (int i = 0; i < what.length && i + shift < from.length; i++) {
                from[i + shift] -= what[i];
            }
        }

        private void divideByYMinusOne() {
            long carried = 0;
            for (int i = LENGTH - 1; i >= 0; i--) {
                long coefficient = counts[i];
                counts[i] = carried;
                carried += coefficient;
            }
        }
    }
}
