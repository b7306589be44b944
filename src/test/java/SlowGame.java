import java.util.ArrayDeque;
import java.util.ArrayList;
import java.util.Arrays;
import java.util.List;

/**
 * The document's promises once more, by other ways and as slow as they come: it fires one node at
 * a time, and tries all sets of edges, all states and all minors.
 */
final class SlowGame {
    private int nodes = 2;
    private int sink = 0;
    private final List<int[]> edges = new ArrayList<>(List.of(new int[] {0, 1}));
    private int[] state = new int[8];
    private String text = "";
    private final ArrayDeque<int[]> history = new ArrayDeque<>();
    private final int[][] slots = new int[3][];
    private int[][] joining = {{0, 1}, {1, 0}};

    // ---- graph

    int reset(int count) {
        if (count < 2 || count > 8) {
            return -10002;
        }
        int before = nodes;
        nodes = count;
        sink = 0;
        edges.clear();
        state = new int[8];
        graphChanged();
        return before;
    }

    private void graphChanged() {
        forget();
        joining = new int[nodes][nodes];
        for (int[] ends : edges) {
            joining[ends[0]][ends[1]]++;
            joining[ends[1]][ends[0]]++;
        }
    }

    private void forget() {
        history.clear();
        Arrays.fill(slots, null);
    }

    private boolean isNode(int v) {
        return v >= 0 && v < nodes;
    }

    private boolean isOther(int v) {
        return isNode(v) && v != sink;
    }

    int addEdge(int u, int v) {
        if (!isNode(u) || !isNode(v)) {
            return -10001;
        }
        if (u == v) {
            return -10002;
        }
        if (edges.size() == 20) {
            return -10005;
        }
        edges.add(new int[] {u, v});
        graphChanged();
        return edges.size() - 1;
    }

    int removeEdge(int e) {
        if (e < 0 || e >= edges.size()) {
            return -10001;
        }
        edges.remove(e);
        graphChanged();
        return edges.size();
    }

    int setSink(int v) {
        if (!isNode(v)) {
            return -10001;
        }
        int before = sink;
        if (v != sink) {
            sink = v;
            state[v] = 0;
            forget();
        }
        return before;
    }

    int type(char sign) {
        if (text.length() == 12) {
            return -10005;
        }
        text += sign;
        return text.length();
    }

    int clearText() {
        int before = text.length();
        text = "";
        return before;
    }

    int readGraph() {
        List<int[]> drawn = new ArrayList<>();
        int k = text.isEmpty() ? 0 : text.charAt(text.length() - 1) - '0';
        if (text.matches("(path[2-8]|cycle[3-8])")) {
            for (int v = 1; v < k; v++) {
                drawn.add(new int[] {v - 1, v});
            }
            if (text.startsWith("cycle")) {
                drawn.add(new int[] {k - 1, 0});
            }
        } else if (text.matches("complete[2-6]")) {
            for (int u = 0; u < k; u++) {
                for (int v = u + 1; v < k; v++) {
                    drawn.add(new int[] {u, v});
                }
            }
        } else if (text.matches("(star[2-8]|wheel[4-8])")) {
            for (int v = 1; v < k; v++) {
                drawn.add(new int[] {0, v});
            }
            for (int v = 1; v < k && text.startsWith("wheel"); v++) {
                drawn.add(new int[] {v, v == k - 1 ? 1 : v + 1});
            }
        } else {
            return -10006;
        }
        reset(k);
        edges.addAll(drawn);
        graphChanged();
        return edges.size();
    }

    int value(int what) {
        return switch (what) {
            case 0 -> nodes;
            case 1 -> edges.size();
            case 2 -> sink;
            case 3 -> connected((1 << edges.size()) - 1) ? 1 : 0;
            case 4 -> Arrays.stream(state).sum();
            case 5 -> history.size();
            case 6 -> edges.size() - degreeAt(sink);
            default -> -10002;
        };
    }

    private boolean connected(int edgeSet) {
        boolean[] seen = new boolean[nodes];
        visit(sink, edgeSet, seen);
        for (boolean one : seen) {
            if (!one) {
                return false;
            }
        }
        return true;
    }

    private void visit(int v, int edgeSet, boolean[] seen) {
        seen[v] = true;
        for (int e = 0; e < edges.size(); e++) {
            int[] ends = edges.get(e);
            if ((edgeSet & 1 << e) != 0) {
                if (ends[0] == v && !seen[ends[1]]) {
                    visit(ends[1], edgeSet, seen);
                }
                if (ends[1] == v && !seen[ends[0]]) {
                    visit(ends[0], edgeSet, seen);
                }
            }
        }
    }

    private boolean connected() {
        return value(3) == 1;
    }

    private int between(int u, int v) {
        return joining[u][v];
    }

    private int degreeAt(int v) {
        int count = 0;
        for (int u = 0; u < nodes; u++) {
            count += between(u, v);
        }
        return count;
    }

    int degree(int v) {
        return isNode(v) ? degreeAt(v) : -10001;
    }

    int edge(int e, boolean second) {
        return e < 0 || e >= edges.size() ? -10001 : edges.get(e)[second ? 1 : 0];
    }

    // ---- chips

    private void record() {
        if (history.size() == 12) {
            history.removeFirst();
        }
        history.addLast(state.clone());
    }

    int setChips(int v, int chips) {
        if (!isOther(v)) {
            return -10001;
        }
        if (chips < 0 || chips > 1000) {
            return -10002;
        }
        record();
        int before = state[v];
        state[v] = chips;
        return before;
    }

    int chips(int v) {
        return isOther(v) ? state[v] : -10001;
    }

    private boolean canFire(int[] chips, int v) {
        return v != sink && degreeAt(v) > 0 && chips[v] >= degreeAt(v);
    }

    private void fireOne(int[] chips, int v) {
        for (int[] ends : edges) {
            for (int side = 0; side < 2; side++) {
                if (ends[side] == v) {
                    chips[v]--;
                    if (ends[1 - side] != sink) {
                        chips[ends[1 - side]]++;
                    }
                }
            }
        }
    }

    int fire(int v) {
        if (!isOther(v)) {
            return -10001;
        }
        if (!canFire(state, v)) {
            return -10004;
        }
        record();
        fireOne(state, v);
        return state[v];
    }

    /** Stabilizes; answers how often each node fires. */
    private int[] settle(int[] chips) {
        int[] times = new int[nodes];
        boolean moving = true;
        while (moving) {
            moving = false;
            for (int v = nodes - 1; v >= 0; v--) {
                if (canFire(chips, v)) {
                    fireOne(chips, v);
                    times[v]++;
                    moving = true;
                }
            }
        }
        return times;
    }

    int stabilize() {
        if (!connected()) {
            return -10003;
        }
        record();
        return Arrays.stream(settle(state)).sum();
    }

    int firings(int v) {
        if (!isOther(v)) {
            return -10001;
        }
        return connected() ? settle(state.clone())[v] : -10003;
    }

    private int edgesTo(int v, int nodeSet) {
        int count = 0;
        for (int u = 0; u < nodes; u++) {
            if ((nodeSet & 1 << u) != 0) {
                count += between(u, v);
            }
        }
        return count;
    }

    /** The set of nodes that burn; rounds, where given, is filled in. */
    private int burn(int[] chips, boolean firstRule, int[] rounds) {
        int burnt = 1 << sink;
        int earlier = 0;
        for (int round = 1; burnt != earlier; round++) {
            earlier = burnt;
            for (int v = 0; v < nodes; v++) {
                int edgesToBurnt = edgesTo(v, earlier);
                boolean burns = firstRule ? chips[v] + edgesToBurnt >= degreeAt(v) : edgesToBurnt > chips[v];
                if ((earlier & 1 << v) == 0 && burns) {
                    burnt |= 1 << v;
                    rounds[v] = round;
                }
            }
        }
        return burnt;
    }

    private boolean stable(int[] chips) {
        for (int v = 0; v < nodes; v++) {
            if (canFire(chips, v)) {
                return false;
            }
        }
        return true;
    }

    private boolean recurrent(int[] chips) {
        return stable(chips) && connected() && burn(chips, true, new int[8]) == (1 << nodes) - 1;
    }

    private boolean superstable(int[] chips) {
        return connected() && burn(chips, false, new int[8]) == (1 << nodes) - 1;
    }

    int reduce() {
        if (!connected()) {
            return -10003;
        }
        record();
        settle(state);
        int sets = 0;
        while (!superstable(state)) {
            int burnt = burn(state, false, new int[8]);
            for (int u = 0; u < nodes; u++) {
                for (int v = 0; v < nodes; v++) {
                    if ((burnt & 1 << u) == 0 && (burnt & 1 << v) != 0) {
                        state[u] -= between(u, v);
                        state[v] += v == sink ? 0 : between(u, v);
                    }
                }
            }
            sets++;
        }
        return sets;
    }

    /** The sink gives chips along its edges, which leaves the class, until it is recurrent. */
    private int[] recurrentOf(int[] chips) {
        int[] now = chips.clone();
        settle(now);
        while (!recurrent(now)) {
            for (int v = 0; v < nodes; v++) {
                now[v] += v == sink ? 0 : between(v, sink);
            }
            settle(now);
        }
        return now;
    }

    int makeRecurrent() {
        if (!connected()) {
            return -10003;
        }
        record();
        int[] before = state;
        state = recurrentOf(state);
        return Arrays.equals(before, state) ? 0 : 1;
    }

    int kind() {
        return (stable(state) ? 1 : 0) + (recurrent(state) ? 2 : 0) + (superstable(state) ? 4 : 0);
    }

    int burnt(int v) {
        if (!isNode(v)) {
            return -10001;
        }
        int[] rounds = new int[8];
        return (burn(state, true, rounds) & 1 << v) != 0 ? rounds[v] : -10007;
    }

    int undo() {
        if (history.isEmpty()) {
            return -10007;
        }
        state = history.removeLast();
        return history.size();
    }

    // ---- slots

    int keep(int slot) {
        if (slot < 0 || slot > 2) {
            return -10001;
        }
        int answer = slots[slot] == null ? 1 : 0;
        slots[slot] = state.clone();
        return answer;
    }

    private int slotError(int slot) {
        return slot < 0 || slot > 2 ? -10001 : slots[slot] == null ? -10004 : 0;
    }

    int load(int slot) {
        if (slotError(slot) != 0) {
            return slotError(slot);
        }
        record();
        state = slots[slot].clone();
        return value(4);
    }

    int add(int slot) {
        if (slotError(slot) != 0) {
            return slotError(slot);
        }
        for (int v = 0; v < nodes; v++) {
            if (state[v] + slots[slot][v] > 2000) {
                return -10005;
            }
        }
        record();
        for (int v = 0; v < nodes; v++) {
            state[v] += slots[slot][v];
        }
        return value(4);
    }

    int isSameClass(int slot) {
        if (slotError(slot) != 0) {
            return slotError(slot);
        }
        if (!connected()) {
            return -10003;
        }
        return Arrays.equals(recurrentOf(state), recurrentOf(slots[slot])) ? 1 : 0;
    }

    // ---- group

    private List<Integer> allTrees() {
        List<Integer> trees = new ArrayList<>();
        for (int set = 0; set < 1 << edges.size(); set++) {
            if (Integer.bitCount(set) == nodes - 1 && connected(set)) {
                trees.add(set);
            }
        }
        return trees;
    }

    long treeCount() {
        return allTrees().size();
    }

    int identity(int v) {
        if (!isOther(v)) {
            return -10001;
        }
        return connected() ? recurrentOf(new int[8])[v] : -10003;
    }

    int order() {
        if (!connected()) {
            return -10003;
        }
        int[] one = recurrentOf(state);
        int[] identity = recurrentOf(new int[8]);
        int[] sum = one.clone();
        int taken = 1;
        while (!Arrays.equals(sum, identity)) {
            for (int v = 0; v < nodes; v++) {
                sum[v] += one[v];
            }
            settle(sum);
            taken++;
        }
        return taken;
    }

    /** The factors are the quotients of the greatest common divisors of the minors of each size. */
    long factor(int k) {
        if (k < -1 || !connected()) {
            return Long.MIN_VALUE;
        }
        List<Long> factors = new ArrayList<>();
        long before = 1;
        for (int size = 1; size < nodes; size++) {
            long common = 0;
            for (int rows = 0; rows < 1 << nodes; rows++) {
                for (int columns = 0; columns < 1 << nodes; columns++) {
                    boolean sized = Integer.bitCount(rows) == size && Integer.bitCount(columns) == size;
                    if (sized && ((rows | columns) & 1 << sink) == 0) {
                        common = divisor(common, minor(rows, columns));
                    }
                }
            }
            if (common / before > 1) {
                factors.add(common / before);
            }
            before = common;
        }
        if (k == -1) {
            return factors.size();
        }
        return k < factors.size() ? factors.get(k) : Long.MIN_VALUE;
    }

    private long minor(int rows, int columns) {
        if (rows == 0) {
            return 1;
        }
        int row = Integer.numberOfTrailingZeros(rows);
        long sum = 0;
        long sign = 1;
        for (int column = 0; column < nodes; column++) {
            if ((columns & 1 << column) != 0) {
                long cell = row == column ? degreeAt(row) : -between(row, column);
                if (cell != 0) {
                    sum += sign * cell * minor(rows & ~(1 << row), columns & ~(1 << column));
                }
                sign = -sign;
            }
        }
        return sum;
    }

    private static long divisor(long a, long b) {
        return b == 0 ? Math.abs(a) : divisor(b, a % b);
    }

    int level() {
        return recurrent(state) ? value(4) - value(6) : -10004;
    }

    int levelCount(int level) {
        if (level < 0) {
            return -10002;
        }
        if (!connected()) {
            return -10003;
        }
        return countFrom(0, new int[8], level);
    }

    private int countFrom(int v, int[] chips, int level) {
        if (v == nodes) {
            return Arrays.stream(chips).sum() - value(6) == level && recurrent(chips) ? 1 : 0;
        }
        int count = 0;
        int most = v == sink ? 0 : degreeAt(v) - 1;
        for (int c = 0; c <= most; c++) {
            chips[v] = c;
            count += countFrom(v + 1, chips, level);
        }
        return count;
    }

    // ---- trees

    private int treeOf(int[] chips) {
        int tree = 0;
        int used = 0;
        int marked = 1 << sink;
        int[] usedAt = new int[8];
        while (marked != (1 << nodes) - 1) {
            int e = 0;
            int v = -1;
            for (; v < 0; e++) {
                int a = edges.get(e)[0];
                int b = edges.get(e)[1];
                boolean hasA = (marked & 1 << a) != 0;
                boolean hasB = (marked & 1 << b) != 0;
                if ((used & 1 << e) == 0 && hasA != hasB) {
                    v = hasA ? b : a;
                    used |= 1 << e;
                    usedAt[v]++;
                    if (usedAt[v] > degreeAt(v) - 1 - chips[v]) {
                        marked |= 1 << v;
                        tree |= 1 << e;
                    }
                }
            }
        }
        return tree;
    }

    int tree() {
        return recurrent(state) ? treeOf(state) : -10004;
    }

    /** Looks through all stable states for the recurrent one that has the tree. */
    int takeTree(int tree) {
        boolean isSet = tree >= 0 && tree < 1 << edges.size();
        if (!isSet || Integer.bitCount(tree) != nodes - 1 || !connected(tree)) {
            return -10002;
        }
        record();
        state = new int[8];
        if (!find(0, state, tree)) {
            throw new IllegalStateException("no state has the tree " + tree);
        }
        return value(4);
    }

    private boolean find(int v, int[] chips, int tree) {
        if (v == nodes) {
            return recurrent(chips) && treeOf(chips) == tree;
        }
        int most = v == sink ? 0 : degreeAt(v) - 1;
        for (int c = 0; c <= most; c++) {
            chips[v] = c;
            if (find(v + 1, chips, tree)) {
                return true;
            }
        }
        chips[v] = 0;
        return false;
    }

    int treeAt(int k) {
        if (k < 0) {
            return -10002;
        }
        List<Integer> trees = allTrees();
        return k < trees.size() ? trees.get(k) : -10007;
    }
}
