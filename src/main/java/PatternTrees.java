// Terms that are equal modulo given equations, and patterns matched against them.
public final class PatternTrees {
    public static final int BAD = -1;
    public static final int FULL = -2;
    public static final int NONE = -3;

    private static final int MAX_NODES = 20;
    private static final int MAX_TOKENS = 7;
    private static final int CONSTANTS = 6;
    private static final int VARIABLES = 3;
    private static final int SUBSTITUTIONS = MAX_NODES * MAX_NODES * MAX_NODES;

    private static final int FIRST_CONSTANT = 10;
    private static final int G = 20;
    private static final int F = 21;

    // Stands for a node or a class that does not exist; no node has this number.
    private static final int ABSENT = -1;

    // A place for a child that a symbol does not take holds this. Node 0 is there whenever any
    // node is, and leads its own class, so such places always agree and need no case of their own.
    private static final int UNUSED = 0;

    // A node's symbol is the token that names it in a pattern, so the two compare directly.
    private final int[] symbols = new int[MAX_NODES];
    private final int[] firsts = new int[MAX_NODES];
    private final int[] seconds = new int[MAX_NODES];
    private final int[] leaders = new int[MAX_NODES];
    private int nodeCount;

    private final int[] tokens = new int[MAX_TOKENS];
    private int tokenCount;

    // Scratch for the matching: what it holds between public calls means nothing.
    private final int[] bound = new int[VARIABLES];
    private final int[] values = new int[MAX_TOKENS];

    public PatternTrees() {
        nodeCount = 0;
        tokenCount = 0;
    }

    public int constant(int k) {
        if (k < 0 || k >= CONSTANTS) {
            return BAD;
        }
        return nodeMade(FIRST_CONSTANT + k, UNUSED, UNUSED);
    }

    public int one(int a) {
        if (!isNode(a)) {
            return BAD;
        }
        return nodeMade(G, a, UNUSED);
    }

    public int two(int a, int b) {
        if (!isNode(a) || !isNode(b)) {
            return BAD;
        }
        return nodeMade(F, a, b);
    }

    public int equate(int a, int b) {
        if (!isNode(a) || !isNode(b)) {
            return BAD;
        }
        joinClasses(a, b);
        joinCongruentNodes();
        return classCount();
    }

    public int leader(int a) {
        if (!isNode(a)) {
            return BAD;
        }
        return leaders[a];
    }

    public int classes() {
        return classCount();
    }

    public int token(int t) {
        if (tokenCount >= MAX_TOKENS) {
            return FULL;
        }
        if (!isToken(t)) {
            return BAD;
        }
        tokens[tokenCount] = t;
        tokenCount++;
        return tokenCount;
    }

    public int wipe() {
        int had = tokenCount;
        tokenCount = 0;
        return had;
    }

    public int matches() {
        if (!patternIsWhole()) {
            return NONE;
        }
        int count = 0;
        for (int s = 0; s < SUBSTITUTIONS; s++) {
            if (valueUnder(s) != ABSENT) {
                count++;
            }
        }
        return count;
    }

    public int matchesAt(int a) {
        if (!isNode(a)) {
            return BAD;
        }
        if (!patternIsWhole()) {
            return NONE;
        }
        int count = 0;
        for (int s = 0; s < SUBSTITUTIONS; s++) {
            if (valueUnder(s) == leaders[a]) {
                count++;
            }
        }
        return count;
    }

    public int binding(int k, int v) {
        if (!isVariable(v)) {
            return BAD;
        }
        if (!patternIsWhole() || !patternHas(v)) {
            return NONE;
        }
        int seen = 0;
        for (int s = 0; s < SUBSTITUTIONS; s++) {
            if (valueUnder(s) != ABSENT) {
                if (seen == k) {
                    return bound[v];
                }
                seen++;
            }
        }
        return NONE;
    }

    public int clear() {
        int had = nodeCount;
        nodeCount = 0;
        return had;
    }

    private boolean isNode(int a) {
        return a >= 0 && a < nodeCount;
    }

    private int nodeMade(int symbol, int first, int second) {
        int there = nodeOf(symbol, first, second);
        if (there != ABSENT) {
            return there;
        }
        if (nodeCount >= MAX_NODES) {
            return FULL;
        }
        int made = nodeCount;
        symbols[made] = symbol;
        firsts[made] = first;
        seconds[made] = second;
        leaders[made] = made;
        nodeCount++;
        // Equations given earlier may already make the new node equal to an old one.
        joinCongruentNodes();
        return made;
    }

    private int nodeOf(int symbol, int first, int second) {
        for (int i = 0; i < nodeCount; i++) {
            if (symbols[i] == symbol && firsts[i] == first && seconds[i] == second) {
                return i;
            }
        }
        return ABSENT;
    }

    private void joinClasses(int a, int b) {
        int leaderOfA = leaders[a];
        int leaderOfB = leaders[b];
        int smaller = leaderOfA < leaderOfB ? leaderOfA : leaderOfB;
        for (int i = 0; i < nodeCount; i++) {
            if (leaders[i] == leaderOfA || leaders[i] == leaderOfB) {
                leaders[i] = smaller;
            }
        }
    }

    // Every pass but the last leaves fewer classes, so as many passes as nodes are enough.
    private void joinCongruentNodes() {
        boolean joined = true;
        for (int pass = 0; pass < MAX_NODES && joined; pass++) {
            joined = false;
            for (int i = 0; i < nodeCount; i++) {
                int equal = classOf(symbols[i], leaders[firsts[i]], leaders[seconds[i]]);
                if (equal != leaders[i]) {
                    joinClasses(i, equal);
                    joined = true;
                }
            }
        }
    }

    // The class of the nodes with this symbol whose children are in the classes with these leaders.
    private int classOf(int symbol, int first, int second) {
        for (int i = 0; i < nodeCount; i++) {
            if (symbols[i] == symbol && leaders[firsts[i]] == first && leaders[seconds[i]] == second) {
                return leaders[i];
            }
        }
        return ABSENT;
    }

    private int classCount() {
        int count = 0;
        for (int i = 0; i < nodeCount; i++) {
            if (leaders[i] == i) {
                count++;
            }
        }
        return count;
    }

    private boolean isVariable(int t) {
        return t >= 0 && t < VARIABLES;
    }

    private boolean isToken(int t) {
        boolean isConstant = t >= FIRST_CONSTANT && t < FIRST_CONSTANT + CONSTANTS;
        return isVariable(t) || isConstant || t == G || t == F;
    }

    private int arity(int t) {
        if (t == F) {
            return 2;
        }
        return t == G ? 1 : 0;
    }

    private boolean patternIsWhole() {
        int termsDue = 1;
        for (int i = 0; i < tokenCount; i++) {
            if (termsDue == 0) {
                return false;
            }
            termsDue += arity(tokens[i]) - 1;
        }
        return termsDue == 0;
    }

    private boolean patternHas(int variable) {
        for (int i = 0; i < tokenCount; i++) {
            if (tokens[i] == variable) {
                return true;
            }
        }
        return false;
    }

    // A substitution's number has one digit a variable, in base MAX_NODES and variable 0 foremost,
    // so that counting upwards goes through the substitutions in the order of the matches.
    private boolean bindVariables(int substitution) {
        bound[0] = substitution / (MAX_NODES * MAX_NODES);
        bound[1] = substitution / MAX_NODES % MAX_NODES;
        bound[2] = substitution % MAX_NODES;
        for (int v = 0; v < VARIABLES; v++) {
            if (!mayBind(v, bound[v])) {
                return false;
            }
        }
        return true;
    }

    // A variable that the pattern lacks gets one digit only, lest a match be counted twice.
    private boolean mayBind(int variable, int node) {
        if (!patternHas(variable)) {
            return node == UNUSED;
        }
        return isNode(node) && leaders[node] == node;
    }

    // The leader of a whole pattern's value; ABSENT if the number is no substitution or no match.
    // Read from the back, a symbol finds its terms' values on top of the stack, the first uppermost.
    private int valueUnder(int substitution) {
        if (!bindVariables(substitution)) {
            return ABSENT;
        }
        int height = 0;
        for (int i = tokenCount - 1; i >= 0; i--) {
            int t = tokens[i];
            int taken = arity(t);
            int first = taken >= 1 ? values[height - 1] : UNUSED;
            int second = taken == 2 ? values[height - 2] : UNUSED;
            int value = isVariable(t) ? bound[t] : classOf(t, first, second);
            if (value == ABSENT) {
                return ABSENT;
            }
            height -= taken;
            values[height] = value;
            height++;
        }
        return values[0];
    }
}
