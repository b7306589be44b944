/** Promises 12 to 21: the chips of a state. */
final class ChipsTest {
    private static final Check CHECK = new Check("ChipsTest");

    private static void due(String call, long got, long want) {
        CHECK.due(call, got, want);
    }

    public static void main(String[] arguments) {
        setChips();
        chips();
        fire();
        fireWithoutConnection();
        stabilize();
        stabilizeManyChips();
        firings();
        reduce();
        reduceStepByStep();
        makeRecurrent();
        kind();
        kindWithoutConnection();
        burnt();
        undoEachKindOfCall();
        undoIsLimited();
        undoSkipsRefusedCalls();
        CHECK.end();
    }

    private static void setChips() {
        ChipGame x = Check.drawn(3, 0, 1, 1, 2);
        due("12 first", x.setChips(1, 1000), 0);
        due("12 again", x.setChips(1, 3), 1000);
        due("12 zero", x.setChips(1, 0), 3);
        due("12 unconnected too", x.setChips(2, 1), 0);
        due("12 sink", x.setChips(0, 1), ChipGame.UNKNOWN);
        due("12 below", x.setChips(-1, 1), ChipGame.UNKNOWN);
        due("12 above", x.setChips(3, 1), ChipGame.UNKNOWN);
        due("12 unknown before bad", x.setChips(0, -1), ChipGame.UNKNOWN);
        due("12 too few", x.setChips(1, -1), ChipGame.BAD_VALUE);
        due("12 too many", x.setChips(1, 1001), ChipGame.BAD_VALUE);
        due("12 unchanged", Check.digits(x), 1);
        due("12 recorded", x.value(5), 4);
    }

    private static void chips() {
        ChipGame x = Check.drawn(4, 0, 1, 1, 2, 2, 3);
        x.setSink(2);
        Check.setAll(x, 6, 7, 8);
        due("13 node 0", x.chips(0), 6);
        due("13 node 1", x.chips(1), 7);
        due("13 sink", x.chips(2), ChipGame.UNKNOWN);
        due("13 node 3", x.chips(3), 8);
        due("13 below", x.chips(-1), ChipGame.UNKNOWN);
        due("13 above", x.chips(4), ChipGame.UNKNOWN);
        due("13 far", x.chips(Integer.MAX_VALUE), ChipGame.UNKNOWN);
    }

    private static void fire() {
        ChipGame x = Check.drawn(3, 0, 1, 1, 2, 2, 1);
        Check.setAll(x, 4, 1);
        due("14 node 1", x.fire(1), 1);
        due("14 both edges", x.chips(2), 3);
        due("14 sink took one", x.value(4), 4);
        due("14 too few", x.fire(1), ChipGame.NOT_POSSIBLE);
        due("14 node 2", x.fire(2), 1);
        due("14 given", x.chips(1), 3);
        due("14 just enough", x.fire(1), 0);
        due("14 sink", x.fire(0), ChipGame.UNKNOWN);
        due("14 below", x.fire(-1), ChipGame.UNKNOWN);
        due("14 above", x.fire(3), ChipGame.UNKNOWN);
        due("14 recorded", x.value(5), 5);
    }

    private static void fireWithoutConnection() {
        ChipGame x = Check.drawn(4, 1, 2);
        Check.setAll(x, 1, 1, 1);
        due("14 unconnected", x.fire(1), 0);
        due("14 given", x.chips(2), 2);
        due("14 back", x.fire(2), 1);
        due("14 without edges", x.fire(3), ChipGame.NOT_POSSIBLE);
        due("14 its chips stay", x.chips(3), 1);
    }

    private static void stabilize() {
        ChipGame x = Check.named("path4");
        due("15 stable", x.stabilize(), 0);
        Check.setAll(x, 0, 0, 3);
        due("15 firings", x.stabilize(), 10);
        due("15 state", Check.digits(x), 110);
        due("15 nothing more", x.stabilize(), 0);
        due("15 recorded", x.value(5), 6);
        x.removeEdge(0);
        x.setChips(2, 7);
        due("15 unconnected", x.stabilize(), ChipGame.NOT_CONNECTED);
        due("15 unchanged", Check.digits(x), 170);
        due("15 not recorded", x.value(5), 1);
    }

    private static void stabilizeManyChips() {
        ChipGame x = Check.named("path8");
        Check.setAll(x, 1000, 1000, 1000, 1000, 1000, 1000, 1000);
        x.keep(0);
        x.add(0);
        due("15 twice 1000 everywhere", x.value(4), 14000);
        due("16 node 7", x.firings(7), 55979);
        due("15 firings", x.stabilize(), 279888);
        due("15 state", Check.digits(x), 1111110);
    }

    private static void firings() {
        ChipGame x = Check.named("path4");
        Check.setAll(x, 0, 0, 3);
        due("16 node 1", x.firings(1), 1);
        due("16 node 2", x.firings(2), 3);
        due("16 node 3", x.firings(3), 6);
        due("16 unchanged", Check.digits(x), 3);
        due("16 not recorded", x.value(5), 3);
        due("16 sink", x.firings(0), ChipGame.UNKNOWN);
        due("16 below", x.firings(-1), ChipGame.UNKNOWN);
        due("16 above", x.firings(4), ChipGame.UNKNOWN);
        x.stabilize();
        due("16 stable", x.firings(3), 0);
        x.removeEdge(1);
        due("16 unconnected", x.firings(1), ChipGame.NOT_CONNECTED);
        due("16 unknown before unconnected", x.firings(0), ChipGame.UNKNOWN);
    }

    private static void reduce() {
        ChipGame x = Check.named("cycle4");
        due("17 superstable", x.reduce(), 0);
        Check.setAll(x, 1, 1, 1);
        due("17 sets", x.reduce(), 1);
        due("17 state", Check.digits(x), 10);
        due("17 kind", x.kind(), 5);
        due("17 nothing more", x.reduce(), 0);
        due("17 recorded", x.value(5), 6);
        Check.setAll(x, 0, 2, 1);
        due("17 only set firings count", x.reduce(), 1);
        due("17 state", Check.digits(x), 1);
        x.removeEdge(0);
        x.removeEdge(0);
        due("17 unconnected", x.reduce(), ChipGame.NOT_CONNECTED);
        due("17 unchanged", Check.digits(x), 1);
        due("17 not recorded", x.value(5), 0);
    }

    /** A set gives along each edge that leads out of it, the edges to the sink among them. */
    private static void reduceStepByStep() {
        ChipGame x = Check.drawn(3, 0, 1, 0, 1, 1, 2, 1, 2, 1, 2, 2, 0);
        Check.setAll(x, 4, 3);
        due("17 sets", x.reduce(), 2);
        due("17 state", Check.digits(x), 1);
        Check.setAll(x, 1, 3);
        due("17 one node fires", x.reduce(), 0);
        Check.setAll(x, 3, 0);
        due("17 burns by the other node", x.reduce(), 0);
        Check.setAll(x, 4, 0);
        due("17 burns in round 2", x.reduce(), 0);
    }

    private static void makeRecurrent() {
        ChipGame x = Check.named("cycle4");
        due("18 from nothing", x.makeRecurrent(), 1);
        due("18 state", Check.digits(x), 101);
        due("18 again", x.makeRecurrent(), 0);
        due("18 recorded", x.value(5), 2);
        Check.setAll(x, 1, 1, 1);
        due("18 recurrent", x.makeRecurrent(), 0);
        Check.setAll(x, 3, 1, 0);
        due("18 not stable", x.makeRecurrent(), 1);
        due("18 state", Check.digits(x), 11);
        x.removeEdge(0);
        x.removeEdge(1);
        due("18 unconnected", x.makeRecurrent(), ChipGame.NOT_CONNECTED);
        due("18 unchanged", Check.digits(x), 11);
        due("18 not recorded", x.value(5), 0);
    }

    private static void kind() {
        ChipGame x = Check.named("cycle4");
        kindOf(x, 5, 0, 0, 0);
        kindOf(x, 3, 1, 1, 1);
        kindOf(x, 3, 1, 0, 1);
        kindOf(x, 5, 0, 1, 0);
        kindOf(x, 5, 1, 0, 0);
        kindOf(x, 3, 1, 1, 0);
        kindOf(x, 0, 2, 1, 1);
        kindOf(x, 0, 2, 0, 0);
        ChipGame path = Check.named("path3");
        kindOf(path, 5, 0, 0);
        kindOf(path, 0, 0, 1);
        kindOf(path, 3, 1, 0);
        due("19 a tree of one edge", new ChipGame().kind(), 7);
        ChipGame doubled = Check.drawn(3, 0, 1, 0, 2, 1, 2, 1, 2);
        kindOf(doubled, 1, 1, 1);
        kindOf(doubled, 3, 2, 1);
    }

    private static void kindOf(ChipGame x, int want, int... chips) {
        Check.setAll(x, chips);
        due("19 kind of " + Check.digits(x), x.kind(), want);
    }

    private static void kindWithoutConnection() {
        ChipGame x = Check.drawn(3, 0, 1);
        due("19 unconnected", x.kind(), 1);
        Check.setAll(x, 0, 5);
        due("19 a node without edges can't fire", x.kind(), 1);
        x.setChips(1, 1);
        due("19 unconnected, not stable", x.kind(), 0);
    }

    private static void burnt() {
        ChipGame x = Check.named("path4");
        Check.setAll(x, 1, 1, 0);
        due("20 sink", x.burnt(0), 0);
        due("20 node 1", x.burnt(1), 1);
        due("20 node 2", x.burnt(2), 2);
        due("20 node 3", x.burnt(3), 3);
        Check.setAll(x, 1, 0, 1);
        due("20 not stable", x.burnt(3), 1);
        due("20 both neighbours", x.burnt(2), 2);
        Check.setAll(x, 0, 1, 0);
        due("20 doesn't burn", x.burnt(1), ChipGame.NONE);
        due("20 doesn't burn", x.burnt(3), ChipGame.NONE);
        due("20 sink burns", x.burnt(0), 0);
        due("20 below", x.burnt(-1), ChipGame.UNKNOWN);
        due("20 above", x.burnt(4), ChipGame.UNKNOWN);
        x.removeEdge(2);
        due("20 without edges", x.burnt(3), 1);
        x.setSink(3);
        due("20 sink without edges", x.burnt(3), 0);
        Check.setAll(x, 1, 0, 0);
        due("20 burns by its chips", x.burnt(0), 1);
        due("20 not yet", x.burnt(1), ChipGame.NONE);
        Check.setAll(x, 1, 1, 0);
        due("20 far from the sink", x.burnt(1), 2);
        due("20 further", x.burnt(2), 3);
    }

    private static void undoEachKindOfCall() {
        ChipGame x = Check.named("path3");
        due("21 none", x.undo(), ChipGame.NONE);
        Check.setAll(x, 2, 2);
        x.keep(0);
        x.fire(1);
        x.stabilize();
        x.reduce();
        x.makeRecurrent();
        x.load(0);
        x.add(0);
        x.takeTree(3);
        due("21 recorded", x.value(5), 9);
        long[] before = {44, 22, 10, 0, 10, 3, 22, 20, 0};
        for (int i = 0; i < before.length; i++) {
            due("21 undo", x.undo(), 8 - i);
            due("21 state", Check.digits(x), before[i]);
        }
        due("21 none", x.undo(), ChipGame.NONE);
        due("21 slot stays", x.load(0), 4);
        due("21 undo", x.undo(), 0);
    }

    private static void undoIsLimited() {
        ChipGame x = new ChipGame();
        for (int chips = 1; chips <= 30; chips++) {
            x.setChips(1, chips);
            due("9 undoable", x.value(5), Math.min(chips, 12));
        }
        for (int left = 11; left >= 0; left--) {
            due("21 undo", x.undo(), left);
            due("21 chips", x.chips(1), 18 + left);
        }
        due("21 the older ones are dropped", x.undo(), ChipGame.NONE);
        due("21 unchanged", x.chips(1), 18);
        x.setChips(1, 5);
        due("21 again", x.undo(), 0);
        due("21 chips", x.chips(1), 18);
    }

    private static void undoSkipsRefusedCalls() {
        ChipGame x = Check.drawn(3, 0, 1, 1, 2);
        x.setChips(2, 2);
        x.setChips(2, 3);
        x.setChips(0, 1);
        x.setChips(1, -1);
        x.fire(1);
        x.load(0);
        x.add(0);
        x.takeTree(1);
        x.keep(1);
        x.firings(2);
        x.kind();
        x.type('a');
        due("21 undo", x.undo(), 1);
        due("21 state", x.chips(2), 2);
        due("21 undone state isn't recorded", x.value(5), 1);
    }
}
