/** Counts and prints the answers that are not as due. */
final class Check {
    private final String name;
    private String sentence = "";
    private int checkedBefore = 0;
    private int checked = 0;
    private int wrong = 0;

    Check(String name) {
        this.name = name;
    }

    void due(String call, long got, long want) {
        checked++;
        if (got != want) {
            wrong++;
            System.out.println(name + ": " + sentence + call + " answered " + got + ", due is " + want);
        }
    }

    /** Begins the test of a sentence of the document, which what is wrong is then told with. */
    void sentence(String quote) {
        endSentence();
        sentence = "\"" + quote + "\" ";
        checkedBefore = checked;
    }

    /** A sentence under which nothing was checked has no test. */
    private void endSentence() {
        if (!sentence.isEmpty() && checked == checkedBefore) {
            wrong++;
            System.out.println(name + ": nothing checked for " + sentence);
        }
    }

    void that(String what, boolean holds) {
        due(what, holds ? 1 : 0, 1);
    }

    int checked() {
        return checked;
    }

    /** Ends the program, with exit code 1 if an answer was wrong. */
    void end() {
        endSentence();
        System.out.println(name + ": " + checked + " checked, " + wrong + " wrong");
        if (wrong != 0 || checked == 0) {
            System.exit(1);
        }
    }

    /** A new object with the graph that the text names. */
    static ChipGame named(String text) {
        ChipGame game = new ChipGame();
        typeText(game, text);
        game.readGraph();
        return game;
    }

    static void typeText(ChipGame game, String text) {
        for (int i = 0; i < text.length(); i++) {
            game.type(text.charAt(i));
        }
    }

    /** A new object with the given nodes and edges, two numbers for each edge. */
    static ChipGame drawn(int nodes, int... ends) {
        ChipGame game = new ChipGame();
        game.reset(nodes);
        for (int i = 0; i + 1 < ends.length; i += 2) {
            game.addEdge(ends[i], ends[i + 1]);
        }
        return game;
    }

    /** Adds edges between two nodes until there are 20 edges. */
    static void fill(ChipGame game, int u, int v) {
        for (int tries = 0; tries < 20 && game.value(1) < 20; tries++) {
            game.addEdge(u, v);
        }
    }

    /** Sets the chips of the nodes but the sink, in ascending order of the nodes. */
    static void setAll(ChipGame game, int... chips) {
        int node = 0;
        for (int count : chips) {
            if (node == game.value(2)) {
                node++;
            }
            game.setChips(node, count);
            node++;
        }
    }

    /** The chips of all nodes but the sink as decimal digits of one number, each below 10. */
    static long digits(ChipGame game) {
        long number = 0;
        for (int v = 0; v < game.value(0); v++) {
            if (v != game.value(2)) {
                number = number * 10 + game.chips(v);
            }
        }
        return number;
    }
}
