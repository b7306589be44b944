/** Promises 22 to 25: the slots. */
final class SlotsTest {
    private static final Check CHECK = new Check("SlotsTest");

    private static void due(String call, long got, long want) {
        CHECK.due(call, got, want);
    }

    public static void main(String[] arguments) {
        keep();
        load();
        add();
        addIsLimited();
        withAnotherSink();
        isSameClass();
        isSameClassOfSlots();
        isSameClassOfLargeStates();
        CHECK.end();
    }

    private static void keep() {
        ChipGame x = Check.named("path3");
        Check.setAll(x, 1, 2);
        due("22 empty", x.keep(0), 1);
        due("22 full", x.keep(0), 0);
        due("22 the last", x.keep(2), 1);
        due("22 below", x.keep(-1), ChipGame.UNKNOWN);
        due("22 above", x.keep(3), ChipGame.UNKNOWN);
        due("22 not recorded", x.value(5), 2);
        x.setChips(1, 5);
        due("22 over it", x.keep(2), 0);
        due("22 each for itself", x.load(0), 3);
        due("22 the newer one", x.load(2), 7);
        due("22 the other one is empty", x.load(1), ChipGame.NOT_POSSIBLE);
    }

    private static void load() {
        ChipGame x = Check.named("path4");
        Check.setAll(x, 1, 2, 3);
        x.keep(1);
        Check.setAll(x, 4, 5, 6);
        due("23 sum", x.load(1), 6);
        due("23 state", Check.digits(x), 123);
        due("23 recorded", x.value(5), 7);
        due("23 the same again", x.load(1), 6);
        due("23 recorded", x.value(5), 8);
        due("23 empty", x.load(0), ChipGame.NOT_POSSIBLE);
        due("23 below", x.load(-1), ChipGame.UNKNOWN);
        due("23 above", x.load(3), ChipGame.UNKNOWN);
        due("23 not recorded", x.value(5), 8);
        x.setChips(1, 9);
        due("23 the slot has its own state", x.load(1), 6);
    }

    private static void add() {
        ChipGame x = Check.named("path4");
        Check.setAll(x, 1, 2, 3);
        x.keep(2);
        due("24 sum", x.add(2), 12);
        due("24 state", Check.digits(x), 246);
        due("24 sum", x.add(2), 18);
        due("24 not stabilized", Check.digits(x), 369);
        due("24 recorded", x.value(5), 5);
        due("24 empty", x.add(0), ChipGame.NOT_POSSIBLE);
        due("24 below", x.add(-1), ChipGame.UNKNOWN);
        due("24 above", x.add(3), ChipGame.UNKNOWN);
        due("24 not recorded", x.value(5), 5);
        due("24 slot stays", x.load(2), 6);
    }

    private static void addIsLimited() {
        ChipGame x = Check.named("path3");
        Check.setAll(x, 3, 1000);
        x.keep(0);
        due("24 just enough room", x.add(0), 2006);
        due("24 full", x.add(0), ChipGame.FULL);
        due("24 unchanged", x.chips(1), 6);
        due("24 unchanged", x.chips(2), 2000);
        due("24 not recorded", x.value(5), 3);
        Check.setAll(x, 2, 0);
        x.keep(1);
        x.load(0);
        x.add(0);
        x.fire(1);
        due("24 fired beyond", x.chips(2), 2001);
        due("24 full even of nothing", x.add(1), ChipGame.FULL);
        x.undo();
        due("24 the other node", x.add(1), 2008);
        x.setChips(1, 1000);
        x.setChips(2, 0);
        x.keep(2);
        x.add(2);
        x.setChips(2, 1);
        due("24 one node is enough", x.add(2), ChipGame.FULL);
    }

    private static void withAnotherSink() {
        ChipGame x = Check.named("path4");
        x.setSink(2);
        Check.setAll(x, 1, 2, 3);
        x.keep(1);
        due("24 sum", x.add(1), 12);
        due("24 state", Check.digits(x), 246);
        Check.setAll(x, 0, 0, 0);
        due("23 sum", x.load(1), 6);
        due("23 state", Check.digits(x), 123);
    }

    private static void isSameClassOfSlots() {
        ChipGame x = Check.named("cycle5");
        x.setSink(4);
        x.keep(2);
        x.setChips(0, 1);
        x.keep(0);
        x.setChips(0, 2);
        x.keep(1);
        due("25 slot 0", x.isSameClass(0), 0);
        due("25 slot 1", x.isSameClass(1), 1);
        due("25 slot 2", x.isSameClass(2), 0);
        x.load(0);
        due("25 slot 0", x.isSameClass(0), 1);
        due("25 slot 1", x.isSameClass(1), 0);
        x.load(2);
        due("25 slot 0", x.isSameClass(0), 0);
        due("25 slot 2", x.isSameClass(2), 1);
        Check.setAll(x, 0, 0, 2, 0);
        due("25 slot 0 by other nodes", x.isSameClass(0), 1);
    }

    private static void isSameClass() {
        ChipGame x = Check.named("cycle4");
        due("25 empty", x.isSameClass(0), ChipGame.NOT_POSSIBLE);
        x.keep(0);
        due("25 itself", x.isSameClass(0), 1);
        due("25 below", x.isSameClass(-1), ChipGame.UNKNOWN);
        due("25 above", x.isSameClass(3), ChipGame.UNKNOWN);
        x.setChips(1, 1);
        due("25 another", x.isSameClass(0), 0);
        x.setChips(1, 4);
        due("25 four times", x.isSameClass(0), 1);
        Check.setAll(x, 1, 0, 1);
        due("25 two of three", x.isSameClass(0), 1);
        Check.setAll(x, 0, 2, 0);
        due("25 double", x.isSameClass(0), 1);
        due("25 unchanged", Check.digits(x), 20);
        due("25 not recorded", x.value(5), 8);
        x.removeEdge(0);
        due("25 the slot is empty", x.isSameClass(0), ChipGame.NOT_POSSIBLE);
        x.removeEdge(0);
        x.keep(0);
        due("25 unconnected", x.isSameClass(0), ChipGame.NOT_CONNECTED);
        due("25 empty before unconnected", x.isSameClass(1), ChipGame.NOT_POSSIBLE);
        due("25 unknown first", x.isSameClass(4), ChipGame.UNKNOWN);
    }

    private static void isSameClassOfLargeStates() {
        ChipGame x = Check.named("wheel7");
        Check.setAll(x, 900, 800, 700, 600, 500, 400);
        x.keep(0);
        x.stabilize();
        due("25 stabilized", x.isSameClass(0), 1);
        x.makeRecurrent();
        due("25 recurrent", x.isSameClass(0), 1);
        x.reduce();
        due("25 superstable", x.isSameClass(0), 1);
        x.setChips(3, x.chips(3) + 1);
        due("25 one chip more", x.isSameClass(0), 0);
    }
}
