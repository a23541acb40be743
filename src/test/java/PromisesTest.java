// The promises of the document one by one: ordinary inputs, the edges it names, and wrong inputs.
public final class PromisesTest {
    private static final int BAD = -1;
    private static final int FULL = -2;
    private static final int NONE = -3;
    private static final int[] WRONG_NODES = {-1, -2, -3, 20, 21, 1000, Integer.MIN_VALUE, Integer.MAX_VALUE};

    private static String promise = "";
    private static int wrong = 0;

    public static void main(String[] args) {
        newObject();
        constant();
        one();
        two();
        equate();
        leader();
        classes();
        token();
        wipe();
        wholePatterns();
        matches();
        matchesAt();
        binding();
        orderOfMatches();
        clear();
        orderAndLimits();
        refusalsChangeNothing();
        objectsAreApart();
        System.out.println(wrong == 0 ? "all answers are as due" : wrong + " answers are not as due");
        if (wrong != 0) {
            System.exit(1);
        }
    }

    private static void due(String call, int got, int want) {
        if (got != want) {
            wrong++;
            System.out.println(promise + ": " + call + " answered " + got + ", due is " + want);
        }
    }

    private static void pattern(PatternTrees x, int... tokens) {
        x.wipe();
        for (int i = 0; i < tokens.length; i++) {
            due("token(" + tokens[i] + ")", x.token(tokens[i]), i + 1);
        }
    }

    // The constants 0 to n - 1 as the nodes 0 to n - 1.
    private static PatternTrees withConstants(int n) {
        PatternTrees x = new PatternTrees();
        for (int k = 0; k < n; k++) {
            due("constant(" + k + ")", x.constant(k), k);
        }
        return x;
    }

    // Node 0 is constant 0, node i is g of node i - 1.
    private static PatternTrees withChain(int nodes) {
        PatternTrees x = withConstants(1);
        for (int i = 1; i < nodes; i++) {
            due("one(" + (i - 1) + ")", x.one(i - 1), i);
        }
        return x;
    }

    private static void newObject() {
        promise = "promise 1";
        PatternTrees x = new PatternTrees();
        due("classes()", x.classes(), 0);
        due("leader(0)", x.leader(0), BAD);
        due("one(0)", x.one(0), BAD);
        due("two(0, 0)", x.two(0, 0), BAD);
        due("equate(0, 0)", x.equate(0, 0), BAD);
        due("matches()", x.matches(), NONE);
        due("matchesAt(0)", x.matchesAt(0), BAD);
        due("binding(0, 0)", x.binding(0, 0), NONE);
        due("wipe()", x.wipe(), 0);
        due("clear()", x.clear(), 0);
        due("BAD", PatternTrees.BAD, BAD);
        due("FULL", PatternTrees.FULL, FULL);
        due("NONE", PatternTrees.NONE, NONE);
    }

    private static void constant() {
        promise = "promise 2";
        PatternTrees x = new PatternTrees();
        due("constant(5)", x.constant(5), 0);
        due("constant(0)", x.constant(0), 1);
        due("constant(5) again", x.constant(5), 0);
        due("constant(3)", x.constant(3), 2);
        due("constant(0) again", x.constant(0), 1);
        due("classes()", x.classes(), 3);
        for (int k : new int[] {-1, 6, 10, 15, -10, Integer.MIN_VALUE, Integer.MAX_VALUE}) {
            due("constant(" + k + ")", x.constant(k), BAD);
        }
        due("classes()", x.classes(), 3);

        x = withChain(20);
        due("constant(0), there with 20 nodes", x.constant(0), 0);
        due("constant(1), not there with 20 nodes", x.constant(1), FULL);
        due("constant(6) with 20 nodes", x.constant(6), BAD);
        due("clear()", x.clear(), 20);
    }

    private static void one() {
        promise = "promise 3";
        PatternTrees x = withConstants(2);
        due("one(1)", x.one(1), 2);
        due("one(0)", x.one(0), 3);
        due("one(1) again", x.one(1), 2);
        due("one(2)", x.one(2), 4);
        due("one(5)", x.one(5), BAD);
        for (int a : WRONG_NODES) {
            due("one(" + a + ")", x.one(a), BAD);
        }
        due("classes()", x.classes(), 5);

        // Equal children don't make the same node: that asks for the same node numbers.
        due("equate(3, 4)", x.equate(3, 4), 4);
        due("one(3)", x.one(3), 5);
        due("one(4)", x.one(4), 6);
        due("leader(6)", x.leader(6), 5);

        x = withChain(20);
        due("one(18), there with 20 nodes", x.one(18), 19);
        due("one(19), not there with 20 nodes", x.one(19), FULL);
        due("one(20) with 20 nodes", x.one(20), BAD);
    }

    private static void two() {
        promise = "promise 4";
        PatternTrees x = withConstants(2);
        due("two(0, 1)", x.two(0, 1), 2);
        due("two(1, 0)", x.two(1, 0), 3);
        due("two(0, 0)", x.two(0, 0), 4);
        due("one(0)", x.one(0), 5);
        due("two(0, 1) again", x.two(0, 1), 2);
        due("two(1, 0) again", x.two(1, 0), 3);
        due("two(0, 0) again", x.two(0, 0), 4);
        due("two(0, 6)", x.two(0, 6), BAD);
        due("two(6, 0)", x.two(6, 0), BAD);
        for (int a : WRONG_NODES) {
            due("two(" + a + ", 0)", x.two(a, 0), BAD);
            due("two(0, " + a + ")", x.two(0, a), BAD);
            due("two(" + a + ", " + a + ")", x.two(a, a), BAD);
        }
        due("classes()", x.classes(), 6);

        x = withChain(19);
        due("two(0, 18)", x.two(0, 18), 19);
        due("two(0, 18), there with 20 nodes", x.two(0, 18), 19);
        due("two(18, 0), not there with 20 nodes", x.two(18, 0), FULL);
        due("two(20, 0) with 20 nodes", x.two(20, 0), BAD);
        due("two(0, 20) with 20 nodes", x.two(0, 20), BAD);
    }

    private static void equate() {
        promise = "promise 5";
        PatternTrees x = withConstants(6);
        due("equate(2, 2)", x.equate(2, 2), 6);
        due("equate(4, 2)", x.equate(4, 2), 5);
        due("equate(2, 4)", x.equate(2, 4), 5);
        due("equate(5, 3)", x.equate(5, 3), 4);
        due("equate(5, 4)", x.equate(5, 4), 3);
        due("equate(2, 3), equal already", x.equate(2, 3), 3);
        due("equate(0, 6)", x.equate(0, 6), BAD);
        for (int a : WRONG_NODES) {
            due("equate(" + a + ", 0)", x.equate(a, 0), BAD);
            due("equate(0, " + a + ")", x.equate(0, a), BAD);
            due("equate(" + a + ", " + a + ")", x.equate(a, a), BAD);
        }
        due("classes()", x.classes(), 3);

        // Equality climbs through g and f, and what it joins there may join more above.
        x = withConstants(3);
        due("one(0)", x.one(0), 3);
        due("one(1)", x.one(1), 4);
        due("two(3, 2)", x.two(3, 2), 5);
        due("two(4, 2)", x.two(4, 2), 6);
        due("two(2, 4)", x.two(2, 4), 7);
        due("one(5)", x.one(5), 8);
        due("one(6)", x.one(6), 9);
        due("equate(0, 1)", x.equate(0, 1), 6);
        due("leader(9)", x.leader(9), 8);
        due("leader(7)", x.leader(7), 7);
        due("equate(3, 2)", x.equate(3, 2), 4);
        due("leader(7)", x.leader(7), 5);

        // It does not descend: equal terms may have unequal children.
        x = withConstants(2);
        due("one(0)", x.one(0), 2);
        due("one(1)", x.one(1), 3);
        due("equate(2, 3)", x.equate(2, 3), 3);
        due("leader(1)", x.leader(1), 1);

        // Both children of f count, and g and f are apart.
        x = withConstants(3);
        due("two(0, 2)", x.two(0, 2), 3);
        due("two(1, 0)", x.two(1, 0), 4);
        due("one(0)", x.one(0), 5);
        due("equate(0, 1)", x.equate(0, 1), 5);
        due("leader(4)", x.leader(4), 4);
        due("equate(0, 2)", x.equate(0, 2), 3);
        due("leader(4)", x.leader(4), 3);
        due("leader(5)", x.leader(5), 5);

        // What a late node joins may reach back to earlier ones, here two times over: 0 = 1 makes
        // 10 = 11, hence 2 = 3, hence 8 = 9, hence 4 = 5, hence 6 = 7.
        x = withConstants(6);
        due("one(4)", x.one(4), 6);
        due("one(5)", x.one(5), 7);
        due("two(2, 0)", x.two(2, 0), 8);
        due("two(3, 0)", x.two(3, 0), 9);
        due("two(0, 0)", x.two(0, 0), 10);
        due("two(0, 1)", x.two(0, 1), 11);
        due("equate(10, 2)", x.equate(10, 2), 11);
        due("equate(3, 11)", x.equate(3, 11), 10);
        due("equate(8, 4)", x.equate(8, 4), 9);
        due("equate(5, 9)", x.equate(5, 9), 8);
        due("equate(1, 0)", x.equate(1, 0), 4);
        due("leader(7)", x.leader(7), 6);
        due("leader(9)", x.leader(9), 4);
        due("leader(11)", x.leader(11), 2);

        // In a chain of 20, cycles of length 6 and 4 leave a cycle of length 2.
        x = withChain(20);
        due("equate(6, 0)", x.equate(6, 0), 6);
        due("equate(0, 4)", x.equate(0, 4), 2);
        due("leader(19)", x.leader(19), 1);
        due("equate(19, 18)", x.equate(19, 18), 1);
    }

    private static void leader() {
        promise = "promise 6";
        PatternTrees x = withConstants(6);
        for (int a = 0; a < 6; a++) {
            due("leader(" + a + ")", x.leader(a), a);
        }
        due("equate(5, 3)", x.equate(5, 3), 5);
        due("leader(5)", x.leader(5), 3);
        due("leader(3)", x.leader(3), 3);
        due("equate(5, 1)", x.equate(5, 1), 4);
        for (int a : new int[] {1, 3, 5}) {
            due("leader(" + a + ")", x.leader(a), 1);
        }
        for (int a : new int[] {0, 2, 4}) {
            due("leader(" + a + ")", x.leader(a), a);
        }
        due("leader(6)", x.leader(6), BAD);
        for (int a : WRONG_NODES) {
            due("leader(" + a + ")", x.leader(a), BAD);
        }

        // A node made after the equations falls into the class that it belongs to.
        due("one(3)", x.one(3), 6);
        due("one(5)", x.one(5), 7);
        due("leader(7)", x.leader(7), 6);
        due("two(7, 1)", x.two(7, 1), 8);
        due("two(6, 5)", x.two(6, 5), 9);
        due("two(5, 6)", x.two(5, 6), 10);
        due("leader(9)", x.leader(9), 8);
        due("leader(10)", x.leader(10), 10);
    }

    private static void classes() {
        promise = "promise 7";
        PatternTrees x = withConstants(4);
        due("classes()", x.classes(), 4);
        x.equate(0, 3);
        due("classes() after equate", x.classes(), 3);
        x.one(0);
        due("classes() after one", x.classes(), 4);
        x.one(3);
        due("classes() after one of an equal node", x.classes(), 4);
        x.one(3);
        due("classes() after a node that is there", x.classes(), 4);
        x.equate(1, 2);
        due("classes() after equate", x.classes(), 3);
        x.clear();
        due("classes() after clear", x.classes(), 0);
        due("classes() with 20 nodes", withChain(20).classes(), 20);
    }

    private static void token() {
        promise = "promise 8";
        PatternTrees x = new PatternTrees();
        int[] wrongTokens = {-1, -2, -3, 3, 9, 16, 19, 22, 100, Integer.MIN_VALUE, Integer.MAX_VALUE};
        for (int t : wrongTokens) {
            due("token(" + t + ")", x.token(t), BAD);
        }
        due("wipe()", x.wipe(), 0);
        pattern(x, 0, 1, 2, 10, 11, 12, 13);
        due("token(14), the eighth", x.token(14), FULL);
        due("wipe()", x.wipe(), 7);
        pattern(x, 14, 15, 20, 21);
        for (int t = 3; t < 10; t++) {
            due("token(" + t + ")", x.token(t), BAD);
        }
        due("token(21) again", x.token(21), 5);
        due("token(21) again", x.token(21), 6);
    }

    private static void wipe() {
        promise = "promise 9";
        PatternTrees x = withConstants(2);
        x.equate(0, 1);
        pattern(x, 20, 0);
        due("wipe()", x.wipe(), 2);
        due("wipe() again", x.wipe(), 0);
        due("matches()", x.matches(), NONE);
        due("classes()", x.classes(), 1);
        due("leader(1)", x.leader(1), 0);
        due("token(0)", x.token(0), 1);
        due("matches()", x.matches(), 1);
        due("wipe()", x.wipe(), 1);
        pattern(x, 21, 21, 21, 0, 0, 0, 0);
        due("wipe() of a full pattern", x.wipe(), 7);
        due("token(2)", x.token(2), 1);
    }

    private static void wholePatterns() {
        promise = "promise 10, whole";
        PatternTrees x = withConstants(1);
        int[][] broken = {
            {}, {20}, {21}, {20, 20}, {21, 0}, {21, 20, 0}, {0, 0}, {10, 10}, {0, 20}, {0, 21},
            {20, 0, 1}, {21, 0, 1, 2}, {0, 20, 0}, {21, 21, 0, 0}, {10, 21, 10, 10}, {0, 21, 0},
            {20, 20, 20, 20, 20, 20, 20}, {21, 21, 21, 0, 0, 0, 20}, {20, 10, 20, 10, 20, 10, 10},
        };
        for (int[] tokens : broken) {
            pattern(x, tokens);
            String name = java.util.Arrays.toString(tokens);
            due("matches() of " + name, x.matches(), NONE);
            due("matchesAt(0) of " + name, x.matchesAt(0), NONE);
            due("binding(0, 0) of " + name, x.binding(0, 0), NONE);
        }
        int[][] whole = {
            {0}, {10}, {20, 10}, {21, 10, 10}, {20, 20, 20, 20, 20, 20, 10}, {21, 21, 21, 10, 10, 10, 10},
            {21, 10, 21, 10, 21, 10, 10}, {21, 20, 10, 20, 20, 20, 10}, {20, 21, 20, 10, 20, 20, 10},
        };
        // One class that is g and f of itself, so that every whole pattern of constant 0 has a value.
        x.one(0);
        x.two(0, 0);
        x.equate(0, 1);
        due("equate(1, 2)", x.equate(1, 2), 1);
        for (int[] tokens : whole) {
            pattern(x, tokens);
            due("matches() of " + java.util.Arrays.toString(tokens), x.matches(), 1);
        }
    }

    private static void matches() {
        promise = "promise 10";
        PatternTrees x = new PatternTrees();
        pattern(x, 1);
        due("matches() of a variable without nodes", x.matches(), 0);
        pattern(x, 10);
        due("matches() of a constant without nodes", x.matches(), 0);

        x = withConstants(3);
        due("two(0, 1)", x.two(0, 1), 3);
        due("two(1, 1)", x.two(1, 1), 4);
        due("one(3)", x.one(3), 5);
        pattern(x, 2);
        due("matches() of a variable", x.matches(), 6);
        pattern(x, 12);
        due("matches() of a constant", x.matches(), 1);
        pattern(x, 13);
        due("matches() of a constant that is not there", x.matches(), 0);
        pattern(x, 21, 0, 2);
        due("matches() of f 0 2", x.matches(), 2);
        pattern(x, 21, 1, 1);
        due("matches() of f 1 1", x.matches(), 1);
        pattern(x, 21, 0, 11);
        due("matches() of f 0 c1", x.matches(), 2);
        pattern(x, 21, 11, 0);
        due("matches() of f c1 0", x.matches(), 1);
        pattern(x, 21, 10, 11);
        due("matches() of f c0 c1", x.matches(), 1);
        pattern(x, 21, 11, 10);
        due("matches() of f c1 c0", x.matches(), 0);
        pattern(x, 20, 21, 0, 1);
        due("matches() of g f 0 1", x.matches(), 1);
        pattern(x, 21, 20, 0, 1);
        due("matches() of f g 0 1", x.matches(), 0);
        pattern(x, 20, 20, 0);
        due("matches() of g g 0", x.matches(), 0);

        // Equal nodes serve in each other's place, and equal matches count once.
        due("equate(1, 0)", x.equate(1, 0), 4);
        pattern(x, 21, 11, 10);
        due("matches() of f c1 c0", x.matches(), 1);
        pattern(x, 21, 0, 2);
        due("matches() of f 0 2", x.matches(), 1);
        due("equate(5, 0)", x.equate(5, 0), 3);
        pattern(x, 20, 21, 20, 21, 0, 1, 2);
        due("matches() of g f g f 0 1 2", x.matches(), 1);

        // All three variables take every class: 2 * 2 * 2 substitutions, each a match.
        x = withConstants(2);
        for (int a = 0; a < 2; a++) {
            for (int b = 0; b < 2; b++) {
                x.two(a, b);
            }
        }
        x.equate(2, 0);
        x.equate(3, 1);
        x.equate(4, 1);
        due("equate(5, 0)", x.equate(5, 0), 2);
        pattern(x, 21, 21, 0, 1, 2);
        due("matches() of f f 0 1 2", x.matches(), 8);
        pattern(x, 21, 21, 21, 0, 1, 2, 0);
        due("matches() of f f f 0 1 2 0", x.matches(), 8);
        pattern(x, 21, 21, 1, 21, 1, 2, 2);
        due("matches() of f f 1 f 1 2 2", x.matches(), 4);

        x = withChain(20);
        pattern(x, 0);
        due("matches() of a variable with 20 classes", x.matches(), 20);
        pattern(x, 20, 20, 20, 20, 20, 20, 1);
        due("matches() of six times g", x.matches(), 14);
    }

    private static void matchesAt() {
        promise = "promise 11";
        PatternTrees x = withConstants(3);
        due("two(0, 1)", x.two(0, 1), 3);
        due("two(1, 0)", x.two(1, 0), 4);
        due("two(2, 2)", x.two(2, 2), 5);
        pattern(x, 21, 0, 1);
        due("matchesAt(0)", x.matchesAt(0), 0);
        due("matchesAt(3)", x.matchesAt(3), 1);
        due("equate(4, 5)", x.equate(4, 5), 5);
        due("matchesAt(3)", x.matchesAt(3), 1);
        due("matchesAt(4)", x.matchesAt(4), 2);
        due("matchesAt(5), not a leader", x.matchesAt(5), 2);
        due("equate(5, 0)", x.equate(5, 0), 4);
        due("matchesAt(0)", x.matchesAt(0), 2);
        due("matchesAt(5)", x.matchesAt(5), 2);
        due("matchesAt(1)", x.matchesAt(1), 0);
        due("matchesAt(6)", x.matchesAt(6), BAD);
        for (int a : WRONG_NODES) {
            due("matchesAt(" + a + ")", x.matchesAt(a), BAD);
        }
        pattern(x, 2);
        due("matchesAt(5) of a variable", x.matchesAt(5), 1);
        pattern(x, 11);
        due("matchesAt(1) of constant 1", x.matchesAt(1), 1);
        due("matchesAt(2) of constant 1", x.matchesAt(2), 0);
        pattern(x, 15);
        due("matchesAt(1) of a constant that is not there", x.matchesAt(1), 0);
        pattern(x, 21, 0);
        due("matchesAt(1) of no whole pattern", x.matchesAt(1), NONE);
    }

    private static void binding() {
        promise = "promise 12";
        PatternTrees x = withConstants(3);
        due("two(2, 0)", x.two(2, 0), 3);
        due("two(1, 2)", x.two(1, 2), 4);
        pattern(x, 21, 0, 2);
        due("binding(0, 0)", x.binding(0, 0), 1);
        due("binding(0, 2)", x.binding(0, 2), 2);
        due("binding(1, 0)", x.binding(1, 0), 2);
        due("binding(1, 2)", x.binding(1, 2), 0);
        due("binding(0, 1), not in the pattern", x.binding(0, 1), NONE);
        for (int k : new int[] {-1, 2, 20, 8000, Integer.MIN_VALUE, Integer.MAX_VALUE}) {
            due("binding(" + k + ", 0)", x.binding(k, 0), NONE);
            due("binding(" + k + ", 2)", x.binding(k, 2), NONE);
        }
        for (int v : new int[] {-1, 3, 10, Integer.MIN_VALUE, Integer.MAX_VALUE}) {
            due("binding(0, " + v + ")", x.binding(0, v), BAD);
            due("binding(9, " + v + ")", x.binding(9, v), BAD);
        }

        // From the first class that there can be to the last: node 0 to node 19.
        PatternTrees y = withChain(20);
        pattern(y, 0);
        for (int k = 0; k < 20; k++) {
            due("binding(" + k + ", 0) of a variable", y.binding(k, 0), k);
        }
        due("binding(20, 0) of a variable", y.binding(20, 0), NONE);

        // BAD is tested first.
        pattern(x, 21, 0);
        due("binding(0, 3) of no whole pattern", x.binding(0, 3), BAD);
        due("binding(0, -1) of no whole pattern", x.binding(0, -1), BAD);
        due("binding(0, 0) of no whole pattern", x.binding(0, 0), NONE);
        pattern(x, 10);
        due("binding(0, 0) without variables", x.binding(0, 0), NONE);
        due("binding(0, 3) without variables", x.binding(0, 3), BAD);

        // The leader is told, not the node that was found.
        due("equate(2, 1)", x.equate(2, 1), 4);
        pattern(x, 21, 2, 1);
        due("matches()", x.matches(), 2);
        due("binding(0, 2)", x.binding(0, 2), 1);
        due("binding(0, 1)", x.binding(0, 1), 0);
        due("binding(1, 2)", x.binding(1, 2), 1);
        due("binding(1, 1)", x.binding(1, 1), 1);
    }

    private static void orderOfMatches() {
        promise = "promise 12, order";
        PatternTrees x = withConstants(3);
        int[][] pairs = {{2, 1}, {2, 0}, {0, 2}, {1, 0}, {0, 1}};
        for (int[] p : pairs) {
            x.two(p[0], p[1]);
        }
        pattern(x, 21, 0, 1);
        dueBindings(x, new int[] {0, 1}, new int[][] {{0, 1}, {0, 2}, {1, 0}, {2, 0}, {2, 1}});
        // Variable 0 is foremost wherever in the pattern it stands.
        pattern(x, 21, 1, 0);
        dueBindings(x, new int[] {0, 1}, new int[][] {{0, 1}, {0, 2}, {1, 0}, {1, 2}, {2, 0}});
        pattern(x, 21, 2, 1);
        dueBindings(x, new int[] {1, 2}, new int[][] {{0, 1}, {0, 2}, {1, 0}, {1, 2}, {2, 0}});

        // f f 2 1 0 with f(1,0) = f(0,1) as inner term: 2 then 1 inside, 0 outside.
        x = withConstants(2);
        due("two(1, 0)", x.two(1, 0), 2);
        due("two(0, 1)", x.two(0, 1), 3);
        due("equate(2, 3)", x.equate(2, 3), 3);
        due("two(3, 1)", x.two(3, 1), 4);
        due("two(2, 0)", x.two(2, 0), 5);
        pattern(x, 21, 21, 2, 1, 0);
        dueBindings(x, new int[] {0, 1, 2}, new int[][] {{0, 0, 1}, {0, 1, 0}, {1, 0, 1}, {1, 1, 0}});
    }

    private static void dueBindings(PatternTrees x, int[] variables, int[][] want) {
        due("matches()", x.matches(), want.length);
        for (int k = 0; k < want.length; k++) {
            for (int i = 0; i < variables.length; i++) {
                int v = variables[i];
                due("binding(" + k + ", " + v + ")", x.binding(k, v), want[k][i]);
            }
        }
        due("binding(" + want.length + ", " + variables[0] + ")", x.binding(want.length, variables[0]), NONE);
    }

    private static void clear() {
        promise = "promise 13";
        PatternTrees x = withConstants(4);
        x.equate(1, 3);
        x.equate(0, 2);
        pattern(x, 20, 1);
        due("clear()", x.clear(), 4);
        due("clear() again", x.clear(), 0);
        due("classes()", x.classes(), 0);
        due("leader(0)", x.leader(0), BAD);
        due("one(0)", x.one(0), BAD);
        due("matches()", x.matches(), 0);
        due("matchesAt(0)", x.matchesAt(0), BAD);
        due("binding(0, 1)", x.binding(0, 1), NONE);

        // Numbers start from 0 again, the equations are gone and the pattern is not.
        due("constant(3)", x.constant(3), 0);
        due("constant(1)", x.constant(1), 1);
        due("constant(0)", x.constant(0), 2);
        due("constant(2)", x.constant(2), 3);
        due("classes()", x.classes(), 4);
        due("one(3)", x.one(3), 4);
        due("matches()", x.matches(), 1);
        due("binding(0, 1)", x.binding(0, 1), 3);
        due("token(0)", x.token(0), 3);
        due("wipe()", x.wipe(), 3);

        x = withChain(20);
        due("clear() of 20 nodes", x.clear(), 20);
        due("constant(1)", x.constant(1), 0);
        for (int i = 1; i < 20; i++) {
            due("one(" + (i - 1) + ")", x.one(i - 1), i);
        }
        due("one(19)", x.one(19), FULL);
    }

    private static void orderAndLimits() {
        promise = "promise 14";
        PatternTrees x = withChain(20);
        due("constant(-1) with 20 nodes", x.constant(-1), BAD);
        due("constant(6) with 20 nodes", x.constant(6), BAD);
        due("constant(5) with 20 nodes", x.constant(5), FULL);
        due("one(-1) with 20 nodes", x.one(-1), BAD);
        due("one(20) with 20 nodes", x.one(20), BAD);
        due("one(19) with 20 nodes", x.one(19), FULL);
        due("two(-1, 0) with 20 nodes", x.two(-1, 0), BAD);
        due("two(0, 20) with 20 nodes", x.two(0, 20), BAD);
        due("two(0, 19) with 20 nodes", x.two(0, 19), FULL);

        due("matchesAt(20) of an empty pattern", x.matchesAt(20), BAD);
        due("matchesAt(-1) of an empty pattern", x.matchesAt(-1), BAD);
        due("matchesAt(19) of an empty pattern", x.matchesAt(19), NONE);

        pattern(x, 20, 20, 20, 20, 20, 20, 20);
        due("token(3) with 7 tokens", x.token(3), FULL);
        due("token(-1) with 7 tokens", x.token(-1), FULL);
        due("token(0) with 7 tokens", x.token(0), FULL);
        due("wipe()", x.wipe(), 7);
        due("token(3) with no tokens", x.token(3), BAD);
    }

    private static void refusalsChangeNothing() {
        promise = "refusals";
        PatternTrees x = withChain(20);
        x.constant(9);
        x.constant(1);
        x.one(19);
        x.two(0, 0);
        x.two(20, 0);
        x.equate(0, 20);
        x.equate(-1, 0);
        due("classes()", x.classes(), 20);
        due("leader(19)", x.leader(19), 19);
        pattern(x, 20, 20, 20, 20, 20, 20, 0);
        x.token(0);
        x.token(3);
        due("matches()", x.matches(), 14);
        due("matchesAt(6)", x.matchesAt(6), 1);
        due("wipe()", x.wipe(), 7);
        due("clear()", x.clear(), 20);
    }

    private static void objectsAreApart() {
        promise = "two objects";
        PatternTrees x = withConstants(3);
        PatternTrees y = withConstants(2);
        pattern(x, 0);
        pattern(y, 20, 0);
        x.equate(0, 1);
        due("classes() of the other", y.classes(), 2);
        due("matches()", x.matches(), 2);
        due("matches() of the other", y.matches(), 0);
        due("clear()", x.clear(), 3);
        due("clear() of the other", y.clear(), 2);
    }
}
