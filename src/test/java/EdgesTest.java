import java.util.ArrayList;
import java.util.Arrays;
import java.util.List;
import java.util.regex.Matcher;
import java.util.regex.Pattern;

// Each sentence of the document that names a boundary case, with runs of calls of its own.
// A run is written as calls with the answers that are due, on a new object:
//   constant(0)=0 one(0)=1 one(2)=BAD
// and "[21 0 1]" makes the pattern anew: a wipe, then each token, answered by the number of tokens.
public final class EdgesTest {
    private static final int MOST_CALLS = 512;
    private static final int MIN = Integer.MIN_VALUE;
    private static final int MAX = Integer.MAX_VALUE;
    private static final Pattern STEP = Pattern.compile("\\s*(?:(\\w+)\\(([^)]*)\\)=(\\S+)|\\[([\\d ]*)\\])\\s*");

    // Numbers that a sum, a sign or a narrower type would wrap onto right ones.
    private static final String WRAPPING = "256 -256 65536 -65536 MIN MAX";

    private static int wrong = 0;
    private static int sentences = 0;

    public static void main(String[] args) {
        whatItIs();
        nodes();
        equality();
        patterns();
        substitutionsAndValues();
        orderOfMatches();
        newObject();
        makingNodes();
        equations();
        tokens();
        matching();
        bindings();
        clearing();
        orderAndLimits();
        refusedCalls();
        askingCalls();
        System.out.println(wrong == 0 ? "all " + sentences + " sentences hold" : wrong + " answers are not as due");
        if (wrong != 0) {
            System.exit(1);
        }
    }

    // ---- How a sentence is tested

    private static void sentence(String words, String... runs) {
        sentences++;
        for (String run : runs) {
            play(words, new PatternTrees(), run);
        }
    }

    // Answers how many calls the run has.
    private static int play(String words, PatternTrees x, String run) {
        Matcher step = STEP.matcher(run);
        int calls = 0;
        int end = 0;
        while (step.find() && step.start() == end) {
            end = step.end();
            if (step.group(4) == null) {
                calls++;
                due(words, run, x, step.group(1), numbers(step.group(2)), number(step.group(3)));
            } else {
                x.wipe();
                int[] pattern = numbers(step.group(4));
                for (int i = 0; i < pattern.length; i++) {
                    due(words, run, x, "token", new int[] {pattern[i]}, i + 1);
                }
                calls += 1 + pattern.length;
            }
        }
        // A run that is not read to its end, or is longer than an object may be used, proves nothing.
        if (end != run.length() || calls > MOST_CALLS) {
            throw new IllegalArgumentException(words + ": no run of calls: " + run);
        }
        return calls;
    }

    private static void due(String words, String run, PatternTrees x, String name, int[] arguments, int want) {
        String got;
        try {
            got = "answered " + answer(x, name, arguments);
        } catch (IndexOutOfBoundsException | ArithmeticException e) {
            got = "threw " + e;
        }
        if (!got.equals("answered " + want)) {
            tell(words, name + Arrays.toString(arguments) + " " + got + ", due is " + want + ", in the run " + run);
        }
    }

    private static void tell(String words, String what) {
        wrong++;
        System.out.println("\"" + words + "\": " + what);
    }

    private static int answer(PatternTrees x, String name, int[] a) {
        switch (name + "/" + a.length) {
            case "constant/1": return x.constant(a[0]);
            case "one/1": return x.one(a[0]);
            case "two/2": return x.two(a[0], a[1]);
            case "equate/2": return x.equate(a[0], a[1]);
            case "leader/1": return x.leader(a[0]);
            case "classes/0": return x.classes();
            case "token/1": return x.token(a[0]);
            case "wipe/0": return x.wipe();
            case "matches/0": return x.matches();
            case "matchesAt/1": return x.matchesAt(a[0]);
            case "binding/2": return x.binding(a[0], a[1]);
            case "clear/0": return x.clear();
            default: throw new IllegalArgumentException("no call " + name + " of " + a.length);
        }
    }

    private static int[] numbers(String list) {
        List<Integer> found = new ArrayList<>();
        for (String word : list.trim().split("[, ]+")) {
            if (!word.isEmpty()) {
                found.add(number(word));
            }
        }
        return found.stream().mapToInt(Integer::intValue).toArray();
    }

    private static int number(String word) {
        switch (word) {
            case "BAD": return -1;
            case "FULL": return -2;
            case "NONE": return -3;
            case "MIN": return MIN;
            case "MAX": return MAX;
            default: return Integer.parseInt(word);
        }
    }

    // The same call for each of some arguments: "leader(#)=BAD " for #.
    private static String each(String call, String arguments) {
        StringBuilder run = new StringBuilder();
        for (String a : arguments.split(" ")) {
            run.append(call.replace("#", a)).append(' ');
        }
        return run.toString();
    }

    // The constants 0 to n - 1 as the nodes 0 to n - 1.
    private static String constants(int n) {
        StringBuilder run = new StringBuilder();
        for (int k = 0; k < n; k++) {
            run.append("constant(" + k + ")=" + k + " ");
        }
        return run.toString();
    }

    // Constant 0 as node 0, then g of the node before, up to n nodes.
    private static String chain(int n) {
        StringBuilder run = new StringBuilder("constant(0)=0 ");
        for (int i = 1; i < n; i++) {
            run.append("one(" + (i - 1) + ")=" + i + " ");
        }
        return run.toString();
    }

    // ---- "What it is"

    private static void whatItIs() {
        String[] runs = {
            "[20 20 20 20 20 20 0] " + "token(0)=FULL ".repeat(503) + "wipe()=7",
            (chain(20) + "clear()=20 ").repeat(24) + constants(6) + "equate(5, 0)=5 leader(5)=0",
            constants(2) + "equate(0, 1)=1 ".repeat(508) + "leader(1)=0 classes()=1",
            "token(0)=1 wipe()=1 ".repeat(255) + "constant(9)=BAD wipe()=0",
            chain(20) + "[21 21 0 1 2] " + "matches()=0 ".repeat(485) + "clear()=20",
            // All calls, or all but what they need, may be of one method.
            "wipe()=0 ".repeat(512),
            "clear()=0 ".repeat(512),
            "classes()=0 ".repeat(512),
            "constant(5)=0 ".repeat(512),
            "constant(0)=0 " + "one(0)=1 ".repeat(511),
            "constant(0)=0 " + "two(0, 0)=1 ".repeat(511),
            "constant(0)=0 " + "equate(0, 0)=1 ".repeat(511),
            "constant(0)=0 " + "leader(0)=0 ".repeat(511),
            "constant(0)=0 token(0)=1 " + "matches()=1 ".repeat(510),
            "constant(0)=0 token(0)=1 " + "matchesAt(0)=1 ".repeat(510),
            "constant(0)=0 token(0)=1 " + "binding(0, 0)=0 ".repeat(510),
            "[0 0 0 0 0 0] token(0)=7 " + "token(3)=FULL ".repeat(504),
        };
        sentences++;
        for (String run : runs) {
            int calls = play("An object is used for at most 512 calls after it has been made", new PatternTrees(), run);
            if (calls != MOST_CALLS) {
                throw new IllegalArgumentException("the last call of this run is call " + calls + ": " + run);
            }
        }
    }

    // ---- "Terms"

    private static void nodes() {
        sentence("NODES are terms, numbered from 0",
            "constant(3)=0 one(0)=1 two(1, 0)=2 constant(0)=3 one(3)=4",
            "constant(5)=0 leader(0)=0 leader(1)=BAD");
        sentence("at most 20",
            chain(19) + "one(18)=19 one(19)=FULL clear()=20",
            chain(19) + "constant(5)=19 constant(4)=FULL clear()=20",
            chain(19) + "two(18, 18)=19 two(19, 19)=FULL clear()=20",
            chain(20) + "leader(19)=19 leader(20)=BAD classes()=20");
        sentence("a constant (0 to 5)",
            "constant(-1)=BAD constant(0)=0 constant(1)=1 constant(2)=2 constant(3)=3 constant(4)=4 constant(5)=5 "
                + "constant(6)=BAD classes()=6");
        sentence("g of a node, or f of two nodes",
            "constant(0)=0 one(0)=1 two(0, 0)=2 one(1)=3 two(1, 0)=4 two(0, 1)=5 two(1, 1)=6 classes()=7");
        sentence("A node that is made again (the same constant",
            "constant(2)=0 constant(4)=1 constant(2)=0 constant(4)=1 classes()=2 clear()=2",
            "constant(0)=0 constant(1)=1 equate(0, 1)=1 constant(1)=1 constant(0)=0 clear()=2");
        sentence("or the same symbol with the same node numbers) is the node that is there already",
            constants(2) + "one(0)=2 one(1)=3 two(0, 1)=4 two(1, 0)=5 one(0)=2 one(1)=3 two(0, 1)=4 two(1, 0)=5 clear()=6",
            // Equal nodes have other numbers, so g and f of them are other nodes.
            constants(2) + "equate(0, 1)=1 one(0)=2 one(1)=3 two(0, 0)=4 two(0, 1)=5 two(1, 0)=6 two(1, 1)=7 classes()=3",
            chain(20) + "equate(0, 19)=19 one(19)=FULL one(18)=19 one(0)=1");
    }

    private static void equality() {
        sentence("equated nodes are equal",
            constants(3) + "equate(1, 2)=2 leader(2)=1 leader(1)=1 leader(0)=0",
            chain(20) + "equate(18, 19)=19 leader(19)=18");
        sentence("every node is equal to itself",
            constants(6) + "equate(0, 0)=6 equate(5, 5)=6 leader(0)=0 leader(5)=5 classes()=6",
            chain(20) + "equate(19, 19)=20 leader(19)=19");
        sentence("it holds in both directions",
            constants(3) + "equate(2, 0)=2 leader(2)=0 leader(0)=0",
            constants(3) + "equate(0, 2)=2 leader(2)=0 leader(0)=0 equate(2, 0)=2");
        sentence("passes on (if a is equal to b and b to c, a is equal to c)",
            constants(3) + "equate(0, 1)=2 equate(1, 2)=1 leader(2)=0",
            constants(3) + "equate(1, 2)=2 equate(0, 1)=1 leader(2)=0",
            constants(3) + "equate(2, 0)=2 equate(2, 1)=1 leader(1)=0",
            constants(6) + "equate(4, 5)=5 equate(2, 3)=4 equate(3, 5)=3 leader(5)=2 leader(4)=2 equate(4, 0)=2 leader(3)=0");
        sentence("g of a is equal to g of b if both are nodes and a is equal to b",
            constants(2) + "one(0)=2 one(1)=3 equate(0, 1)=2 leader(3)=2",
            // g of 1 becomes a node after the equation.
            constants(2) + "one(0)=2 equate(0, 1)=2 one(1)=3 classes()=2 leader(3)=2",
            // g of 0 never is one: there is nothing to be equal to.
            constants(2) + "one(1)=2 equate(0, 1)=2 leader(2)=2",
            // What becomes equal so makes g of it equal in turn, up to the last node.
            chain(20) + "equate(0, 1)=1 leader(19)=0",
            constants(2) + "one(0)=2 one(1)=3 one(2)=4 one(3)=5 one(4)=6 one(5)=7 equate(1, 0)=4 leader(7)=6 leader(5)=4");
        sentence("f of a and c is equal to f of b and d if both are nodes, a is equal to b and c is equal to d",
            constants(4) + "two(0, 2)=4 two(1, 3)=5 equate(0, 1)=5 leader(5)=5 equate(2, 3)=3 leader(5)=4",
            constants(4) + "two(0, 2)=4 two(1, 3)=5 equate(2, 3)=5 leader(5)=5 equate(0, 1)=3 leader(5)=4",
            constants(3) + "two(0, 2)=3 two(1, 2)=4 equate(0, 1)=3 leader(4)=3",
            constants(3) + "two(2, 0)=3 two(2, 1)=4 equate(0, 1)=3 leader(4)=3",
            constants(2) + "equate(0, 1)=1 two(0, 1)=2 two(1, 0)=3 classes()=2 leader(3)=2",
            // The places of f are apart: f of 0 and 2 is not f of 2 and 0.
            constants(3) + "two(0, 2)=3 two(2, 1)=4 equate(0, 1)=4 leader(4)=4");
        sentence("EQUAL is the smallest relation of nodes",
            // Equal terms say nothing of their children, and g nothing of f.
            constants(2) + "one(0)=2 one(1)=3 equate(2, 3)=3 leader(1)=1",
            constants(2) + "two(0, 0)=2 two(1, 1)=3 equate(2, 3)=3 leader(1)=1",
            constants(1) + "one(0)=1 two(0, 0)=2 equate(0, 0)=3 leader(2)=2",
            constants(3) + "equate(0, 1)=2 leader(2)=2",
            constants(2) + "one(0)=2 two(1, 1)=3 equate(0, 1)=3 leader(3)=3");
        sentence("A CLASS is a largest set of nodes equal to each other",
            chain(20) + "classes()=20 equate(1, 0)=1 classes()=1",
            constants(6) + "equate(0, 3)=5 equate(1, 4)=4 equate(2, 5)=3 equate(3, 4)=2 equate(5, 1)=1");
        sentence("its LEADER is its smallest node",
            constants(6) + "equate(5, 4)=5 leader(5)=4 equate(4, 3)=4 leader(5)=3 equate(5, 2)=3 leader(4)=2 "
                + "equate(1, 3)=2 leader(5)=1 equate(0, 5)=1 leader(1)=0 leader(5)=0",
            chain(20) + "equate(19, 0)=19 leader(19)=0 leader(18)=18");
    }

    private static void patterns() {
        sentence("A PATTERN is a list of 0 to 7 tokens",
            "wipe()=0 token(0)=1 wipe()=1 wipe()=0",
            "[0 0 0 0 0 0] token(0)=7 token(0)=FULL wipe()=7 wipe()=0");
        sentence("0, 1, 2 (variables), 10 to 15 (the constants 0 to 5), 20 (g), 21 (f)",
            "token(-1)=BAD token(0)=1 token(1)=2 token(2)=3 token(3)=BAD wipe()=3",
            "token(9)=BAD token(10)=1 token(11)=2 token(12)=3 token(13)=4 token(14)=5 token(15)=6 token(16)=BAD wipe()=6",
            "token(19)=BAD token(20)=1 token(21)=2 token(22)=BAD wipe()=2",
            // Token 10 is constant 0 and token 15 is constant 5.
            "constant(0)=0 [10] matches()=1 [11] matches()=0 [15] matches()=0",
            "constant(5)=0 [15] matches()=1 [14] matches()=0 [10] matches()=0");
        sentence("It is WHOLE iff it is one term read from the front",
            constants(2) + "[] matches()=NONE [0 1] matches()=NONE [10 11] matches()=NONE [0 10] matches()=NONE",
            constants(2) + "[0 20] matches()=NONE [10 10 21] matches()=NONE [0 21 0] matches()=NONE [20 0 0] matches()=NONE",
            constants(2) + "[21 0 0 0] matches()=NONE [10 21 10 10] matches()=NONE [0 0 0 0 0 0 0] matches()=NONE");
        sentence("a variable or a constant is a term",
            constants(6) + each("[#] matches()=6", "0 1 2") + each("[#] matches()=1", "10 11 12 13 14 15"));
        sentence("20 followed by a term is one",
            constants(1) + "[20] matches()=NONE token(20)=2 matches()=NONE token(0)=3 matches()=0 token(0)=4 matches()=NONE",
            constants(1) + "[20 20 20 20 20 20 20] matches()=NONE [20 20 20 20 20 20 10] matches()=0");
        sentence("21 followed by two terms is one",
            constants(1) + "[21] matches()=NONE token(0)=2 matches()=NONE token(0)=3 matches()=0 token(0)=4 matches()=NONE",
            constants(1) + "[21 21 0 0] matches()=NONE token(0)=5 matches()=0",
            constants(1) + "[21 21 21 10 10 10] matches()=NONE token(10)=7 matches()=0",
            constants(1) + "[21 10 21 10 21 10] matches()=NONE token(10)=7 matches()=0",
            constants(1) + "[21 20 10 20 20 20] matches()=NONE token(10)=7 matches()=0",
            constants(1) + "[21 21 21 21 0 0 0] matches()=NONE");
    }

    private static void substitutionsAndValues() {
        sentence("A SUBSTITUTION gives a class to every variable that the pattern has",
            // A variable that the pattern lacks gets none: it multiplies nothing.
            constants(3) + "[0] matches()=3 [1] matches()=3 [2] matches()=3 [10] matches()=1",
            constants(2) + "two(0, 0)=2 two(0, 1)=3 two(1, 0)=4 two(1, 1)=5 "
                + "[21 0 1] matches()=4 [21 1 2] matches()=4 [21 0 2] matches()=4 [21 0 0] matches()=2 [21 2 2] matches()=2",
            // No node, no class to give; but where no variable asks for one there is the empty substitution.
            "[0] matches()=0 [10] matches()=0 constant(0)=0 matches()=1",
            // Classes are given, not nodes.
            constants(6) + "equate(0, 5)=5 equate(1, 4)=4 [2] matches()=4");
        sentence("a variable's value is its class",
            constants(3) + "equate(0, 2)=2 [1] matchesAt(0)=1 matchesAt(1)=1 matchesAt(2)=1");
        sentence("a constant's value is the class of the node that is this constant, if there is one",
            "constant(4)=0 constant(2)=1 [12] matchesAt(1)=1 matchesAt(0)=0 [14] matchesAt(0)=1 matchesAt(1)=0",
            "constant(4)=0 constant(2)=1 equate(0, 1)=1 [12] matchesAt(0)=1 matchesAt(1)=1",
            "constant(4)=0 [13] matches()=0 matchesAt(0)=0 constant(3)=1 matches()=1 matchesAt(1)=1",
            // Constant 0 is not node 0, and g of a node is no constant.
            "constant(1)=0 one(0)=1 [10] matches()=0");
        sentence("the value of g of a term is the class of the nodes g of x for x in the term's value,"
                + " if that exists and there is such a node",
            constants(2) + "one(0)=2 [20 10] matches()=1 matchesAt(2)=1 [20 11] matches()=0 [20 0] matches()=1",
            // The term has no value.
            constants(2) + "one(0)=2 [20 12] matches()=0 [20 20 10] matches()=0 [20 20 0] matches()=0",
            // Any x of the value will do.
            constants(2) + "one(1)=2 equate(0, 1)=2 [20 10] matches()=1 matchesAt(2)=1 [20 11] matches()=1",
            constants(2) + "one(1)=2 equate(2, 0)=2 [20 11] matchesAt(0)=1 matchesAt(2)=1 matchesAt(1)=0",
            constants(2) + "two(0, 0)=2 [20 10] matches()=0 [20 0] matches()=0",
            chain(20) + "[20 0] matches()=19 matchesAt(0)=0 matchesAt(1)=1 matchesAt(19)=1",
            chain(20) + "[20 20 20 20 20 20 10] matches()=1 matchesAt(6)=1 matchesAt(5)=0");
        sentence("the value of f of two terms is the class of the nodes f of x and y, for x in the first and y in the second"
                + " value, if these exist and there is such a node",
            constants(2) + "two(0, 1)=2 [21 10 11] matches()=1 matchesAt(2)=1 [21 11 10] matches()=0 [21 10 10] matches()=0",
            // The first term has no value, the second has none, neither has one.
            constants(2) + "two(0, 1)=2 [21 12 11] matches()=0 [21 10 12] matches()=0 [21 12 12] matches()=0",
            constants(2) + "two(0, 0)=2 [21 20 10 10] matches()=0 [21 10 20 10] matches()=0 [21 20 0 1] matches()=0",
            // Any x and y of the values will do.
            constants(4) + "two(1, 3)=4 equate(0, 1)=4 equate(2, 3)=3 [21 10 12] matches()=1 matchesAt(4)=1 [21 12 10] matches()=0",
            constants(2) + "one(0)=2 [21 10 10] matches()=0 [21 0 0] matches()=0",
            constants(1) + "two(0, 0)=1 two(1, 0)=2 two(0, 1)=3 [21 21 10 10 10] matchesAt(2)=1 matchesAt(3)=0 "
                + "[21 10 21 10 10] matchesAt(3)=1 matchesAt(2)=0");
        sentence("A MATCH of a whole pattern is a substitution under which the pattern's value exists",
            constants(3) + "two(0, 1)=3 two(1, 2)=4 [21 0 1] matches()=2 [21 21 0 1 2] matches()=0 [21 0 0] matches()=0",
            // All of the classes, for all of the variables.
            constants(1) + "two(0, 0)=1 equate(0, 1)=1 [21 21 0 1 2] matches()=1 [21 21 21 0 1 2 0] matches()=1",
            constants(2) + "two(0, 0)=2 two(0, 1)=3 two(1, 0)=4 two(1, 1)=5 equate(2, 0)=5 equate(3, 0)=4 equate(4, 1)=3 "
                + "equate(5, 1)=2 [21 21 0 1 2] matches()=8");
    }

    private static void orderOfMatches() {
        sentence("Matches are ordered by the leaders of the classes of variable 0, then 1, then 2",
            constants(2) + "two(1, 1)=2 two(1, 0)=3 two(0, 1)=4 two(0, 0)=5 [21 0 1] matches()=4 "
                + "binding(0, 0)=0 binding(0, 1)=0 binding(1, 0)=0 binding(1, 1)=1 "
                + "binding(2, 0)=1 binding(2, 1)=0 binding(3, 0)=1 binding(3, 1)=1",
            // Variable 0 is foremost though it stands last.
            constants(3) + "two(0, 2)=3 two(1, 0)=4 two(2, 1)=5 [21 2 0] matches()=3 "
                + "binding(0, 0)=0 binding(0, 2)=1 binding(1, 0)=1 binding(1, 2)=2 binding(2, 0)=2 binding(2, 2)=0",
            constants(3) + "two(0, 2)=3 two(1, 0)=4 two(2, 1)=5 [21 2 1] matches()=3 "
                + "binding(0, 1)=0 binding(0, 2)=1 binding(1, 1)=1 binding(1, 2)=2 binding(2, 1)=2 binding(2, 2)=0",
            // All three: 8 matches, counted like binary numbers with variable 0 foremost.
            constants(2) + "two(0, 0)=2 two(0, 1)=3 two(1, 0)=4 two(1, 1)=5 equate(2, 0)=5 equate(3, 0)=4 equate(4, 1)=3 "
                + "equate(5, 1)=2 [21 21 2 0 1] matches()=8 "
                + "binding(0, 0)=0 binding(0, 1)=0 binding(0, 2)=0 binding(1, 0)=0 binding(1, 1)=0 binding(1, 2)=1 "
                + "binding(2, 0)=0 binding(2, 1)=1 binding(2, 2)=0 binding(3, 0)=0 binding(3, 1)=1 binding(3, 2)=1 "
                + "binding(4, 0)=1 binding(4, 1)=0 binding(4, 2)=0 binding(7, 0)=1 binding(7, 1)=1 binding(7, 2)=1 "
                + "binding(8, 0)=NONE");
        sentence("(of those that the pattern has)",
            constants(3) + "[2] binding(0, 2)=0 binding(1, 2)=1 binding(2, 2)=2 binding(3, 2)=NONE",
            constants(3) + "[1] binding(0, 1)=0 binding(1, 1)=1 binding(2, 1)=2 binding(3, 1)=NONE");
        sentence("the smaller first",
            chain(20) + "[0] binding(0, 0)=0 binding(1, 0)=1 binding(18, 0)=18 binding(19, 0)=19 binding(20, 0)=NONE",
            // By the leaders of the classes, not by the nodes that the match is found with.
            constants(3) + "two(1, 1)=3 two(2, 2)=4 equate(0, 2)=4 [21 1 1] matches()=2 binding(0, 1)=0 binding(1, 1)=1");
    }

    // ---- Promises 1 to 7: nodes and equations

    private static void newObject() {
        sentence("Promise 1: No nodes",
            "classes()=0", "clear()=0", "leader(0)=BAD", "one(0)=BAD", "two(0, 0)=BAD", "equate(0, 0)=BAD", "matchesAt(0)=BAD",
            "token(0)=1 matches()=0", "constant(5)=0");
        sentence("Promise 1: an empty pattern",
            "wipe()=0", "matches()=NONE", "binding(0, 0)=NONE", "token(0)=1", "constant(0)=0 matchesAt(0)=NONE");
    }

    private static void makingNodes() {
        sentence("constant: The node that is constant k, made if it is not there",
            "constant(0)=0 classes()=1 constant(5)=1 classes()=2 constant(5)=1 constant(0)=0 classes()=2");
        sentence("constant: k outside 0..5: BAD",
            each("constant(#)=BAD", "-1 6 7 -6 10 15 1000 2147483638 " + WRAPPING) + "classes()=0 constant(0)=0 constant(5)=1");
        sentence("constant: it is not there and there are 20 nodes: FULL",
            chain(19) + "constant(1)=19 constant(2)=FULL constant(5)=FULL",
            // There: no FULL.
            chain(19) + "constant(1)=19 constant(1)=19 constant(0)=0 classes()=20");

        sentence("one: The node g of a, made if it is not there",
            constants(2) + "one(1)=2 classes()=3 one(0)=3 classes()=4 one(1)=2 one(0)=3 one(3)=4 classes()=5");
        sentence("one: There is no node a: BAD",
            constants(2) + each("one(#)=BAD", "-1 2 3 19 20 " + WRAPPING) + "classes()=2 one(1)=2 one(3)=BAD",
            "one(0)=BAD one(-1)=BAD clear()=0");
        sentence("one: it is not there and there are 20 nodes: FULL",
            chain(20) + "one(19)=FULL one(18)=19 one(0)=1 classes()=20",
            // 20 nodes, not 20 classes.
            chain(20) + "equate(0, 1)=1 one(19)=FULL");

        sentence("two: The node f of a and b, made if it is not there",
            constants(2) + "two(0, 0)=2 two(0, 1)=3 two(1, 0)=4 two(1, 1)=5 classes()=6 two(1, 0)=4 two(0, 1)=3 two(1, 1)=5 "
                + "two(0, 0)=2 classes()=6");
        sentence("two: There is no node a or b: BAD",
            constants(2) + each("two(#, 0)=BAD", "-1 2 19 20 " + WRAPPING) + "classes()=2 two(1, 1)=2",
            constants(2) + each("two(0, #)=BAD", "-1 2 19 20 " + WRAPPING) + "classes()=2 two(1, 1)=2",
            constants(2) + each("two(#, #)=BAD", "-1 2 19 20 " + WRAPPING) + "classes()=2 two(1, 1)=2",
            "two(0, 0)=BAD clear()=0");
        sentence("two: it is not there and there are 20 nodes: FULL",
            chain(19) + "two(18, 0)=19 two(0, 18)=FULL two(19, 19)=FULL two(18, 0)=19 classes()=20");
    }

    private static void equations() {
        sentence("equate: Equates two nodes",
            constants(2) + "equate(1, 0)=1 leader(1)=0 classes()=1",
            chain(20) + "equate(0, 19)=19 leader(19)=0");
        sentence("equate: There is no node a or b: BAD",
            constants(2) + each("equate(#, 0)=BAD", "-1 2 19 20 " + WRAPPING) + "classes()=2 leader(1)=1",
            constants(2) + each("equate(0, #)=BAD", "-1 2 19 20 " + WRAPPING) + "classes()=2 leader(1)=1",
            constants(2) + each("equate(#, #)=BAD", "-1 2 19 20 " + WRAPPING) + "classes()=2",
            "equate(0, 0)=BAD");
        sentence("equate: Else answers the number of classes that there are then",
            constants(6) + "equate(0, 0)=6 equate(0, 1)=5 equate(1, 0)=5 equate(4, 5)=4 equate(5, 1)=3 equate(4, 0)=3",
            chain(20) + "equate(10, 10)=20 equate(10, 11)=11 equate(0, 1)=1 equate(0, 19)=1");
        sentence("leader: The leader of a node's class",
            constants(3) + "leader(0)=0 leader(2)=2 equate(2, 1)=2 leader(2)=1 leader(1)=1 leader(0)=0",
            // Also of a node that is made after the equations.
            constants(3) + "equate(2, 1)=2 one(1)=3 one(2)=4 leader(4)=3 leader(3)=3");
        sentence("leader: BAD if there is no such node",
            constants(2) + "leader(0)=0 leader(1)=1 " + each("leader(#)=BAD", "2 19 20 -1 " + WRAPPING),
            chain(20) + "leader(19)=19 leader(20)=BAD",
            "leader(0)=BAD");
        sentence("classes: The number of classes",
            "classes()=0 constant(0)=0 classes()=1 constant(1)=1 classes()=2 equate(0, 1)=1 classes()=1 one(0)=2 classes()=2 "
                + "one(1)=3 classes()=2 clear()=4 classes()=0",
            chain(20) + "classes()=20 equate(0, 2)=2 classes()=2");
    }

    // ---- Promises 8 to 12: patterns and matches

    private static void tokens() {
        sentence("token: Adds a token to the pattern",
            // At its end: the pattern is read in the order in which the tokens came.
            constants(2) + "two(0, 1)=2 token(21)=1 token(10)=2 token(11)=3 matches()=1 matchesAt(2)=1");
        sentence("token: 7 tokens are there: FULL",
            each("token(20)=#", "1 2 3 4 5 6") + "token(0)=7 token(0)=FULL token(21)=FULL wipe()=7 token(0)=1");
        sentence("token: token is none of those above: BAD",
            each("token(#)=BAD", "-1 3 4 5 6 7 8 9 16 17 18 19 22 23 30 266 65546 " + WRAPPING) + "wipe()=0",
            "[0 1 2 10 15 20] " + each("token(#)=BAD", "-1 3 9 16 19 22") + "token(21)=7");
        sentence("token: Else answers the number of tokens",
            "token(0)=1 token(0)=2 token(15)=3 token(21)=4 token(20)=5 token(2)=6 token(10)=7 wipe()=7 token(1)=1");
        sentence("wipe: Makes the pattern empty",
            constants(1) + "[0] matches()=1 wipe()=1 matches()=NONE binding(0, 0)=NONE token(10)=1 matches()=1 binding(0, 0)=NONE",
            "[0 0 0 0 0 0 0] wipe()=7 token(0)=1",
            // And nothing else: nodes and equations stay.
            constants(2) + "equate(0, 1)=1 [0] wipe()=1 classes()=1 leader(1)=0 constant(2)=2");
        sentence("wipe: answers how many tokens it had",
            "wipe()=0 token(0)=1 wipe()=1 wipe()=0 [20 0] wipe()=2 [0 0 0 0 0 0 0] wipe()=7",
            "[0 1] token(3)=BAD wipe()=2");
    }

    private static void matching() {
        sentence("matches: The number of matches",
            "[0] matches()=0 constant(0)=0 matches()=1 constant(1)=1 matches()=2 equate(0, 1)=1 matches()=1 clear()=2 matches()=0",
            chain(20) + "[0] matches()=20 [20 0] matches()=19 [20 20 20 20 20 20 2] matches()=14 [21 0 1] matches()=0",
            "[21 0 1] constant(0)=0 matches()=0 two(0, 0)=1 matches()=1 two(0, 1)=2 matches()=2");
        sentence("matches: NONE if the pattern is not whole",
            "matches()=NONE", constants(1) + "matches()=NONE [20] matches()=NONE [21 0] matches()=NONE [0 0] matches()=NONE");

        sentence("matchesAt: The number of matches under which the pattern's value is the class of node a",
            constants(2) + "two(0, 1)=2 two(1, 0)=3 [21 0 1] matchesAt(0)=0 matchesAt(2)=1 matchesAt(3)=1 "
                + "equate(2, 3)=3 matchesAt(2)=2 matchesAt(3)=2 matchesAt(1)=0",
            chain(20) + "[0] matchesAt(0)=1 matchesAt(19)=1 equate(18, 19)=19 matchesAt(19)=1 matchesAt(18)=1",
            constants(1) + "[11] matchesAt(0)=0 [20 0] matchesAt(0)=0");
        sentence("matchesAt: BAD if there is no such node",
            constants(2) + "[0] matchesAt(1)=1 " + each("matchesAt(#)=BAD", "2 19 20 -1 -2 -3 " + WRAPPING),
            // A value that does not exist is no node either.
            constants(1) + "[11] matchesAt(-1)=BAD",
            "[0] matchesAt(0)=BAD");
        sentence("matchesAt: NONE if the pattern is not whole",
            constants(1) + "matchesAt(0)=NONE [20] matchesAt(0)=NONE [21 0] matchesAt(0)=NONE [0 0] matchesAt(0)=NONE");
    }

    private static void bindings() {
        String pair = constants(3) + "two(2, 0)=3 two(1, 2)=4 [21 0 2] ";
        sentence("binding: The leader of the class that match number k, from 0, gives to variable v",
            pair + "binding(0, 0)=1 binding(0, 2)=2 binding(1, 0)=2 binding(1, 2)=0",
            constants(3) + "equate(1, 2)=2 one(2)=3 [20 1] binding(0, 1)=1",
            // The last match that there can be of three variables: all of them are node 18.
            chain(19) + "two(18, 18)=19 equate(18, 19)=19 [21 21 0 1 2] matches()=1 binding(0, 0)=18 binding(0, 1)=18 "
                + "binding(0, 2)=18",
            chain(20) + "[2] binding(0, 2)=0 binding(19, 2)=19");
        sentence("binding: v outside 0..2: BAD",
            pair + each("binding(0, #)=BAD", "-1 3 10 20 " + WRAPPING) + "binding(0, 0)=1 binding(0, 2)=2",
            "binding(0, -1)=BAD binding(0, 3)=BAD");
        sentence("binding: the pattern is not whole: NONE",
            constants(1) + each("binding(0, #)=NONE", "0 1 2") + "[20] binding(0, 0)=NONE",
            constants(1) + "[21 0] binding(0, 0)=NONE [0 0] binding(0, 0)=NONE [0 1] binding(0, 1)=NONE [1 20] binding(0, 1)=NONE");
        sentence("binding: does not have variable v: NONE",
            pair + "binding(0, 1)=NONE binding(1, 1)=NONE",
            constants(1) + "[0] binding(0, 0)=0 binding(0, 1)=NONE binding(0, 2)=NONE",
            constants(1) + "[2] binding(0, 2)=0 binding(0, 1)=NONE binding(0, 0)=NONE",
            constants(1) + "[10] matches()=1 " + each("binding(0, #)=NONE", "0 1 2"));
        sentence("binding: there is no match k: NONE",
            pair + "matches()=2 " + each("binding(#, 0)=NONE", "-1 2 3 20 8000 " + WRAPPING) + each("binding(#, 2)=NONE", "-1 2 MIN MAX"),
            constants(1) + "[20 0] matches()=0 binding(0, 0)=NONE",
            "[0] binding(0, 0)=NONE binding(-1, 0)=NONE");
        sentence("binding: Tested in this order",
            // BAD comes before each of the three reasons for NONE.
            "binding(0, 3)=BAD binding(0, -1)=BAD [21 0] binding(0, 3)=BAD [10] binding(0, 3)=BAD binding(0, -1)=BAD",
            pair + "binding(2, 3)=BAD binding(-1, -1)=BAD binding(MAX, MAX)=BAD binding(MIN, MIN)=BAD");
    }

    // ---- Promises 13 and 14

    private static void clearing() {
        sentence("clear: Takes all nodes",
            constants(3) + "clear()=3 classes()=0 " + each("leader(#)=BAD", "0 1 2") + "one(0)=BAD constant(2)=0",
            chain(20) + "one(19)=FULL clear()=20 " + chain(20) + "one(19)=FULL",
            constants(1) + "one(0)=1 two(0, 1)=2 clear()=3 constant(0)=0 two(0, 0)=1 one(0)=2 classes()=3");
        sentence("clear: and equations away",
            constants(6) + "equate(0, 5)=5 equate(1, 4)=4 clear()=6 " + constants(6) + "classes()=6 leader(5)=5 leader(4)=4",
            constants(2) + "equate(0, 1)=1 clear()=2 " + constants(2) + "one(0)=2 one(1)=3 classes()=4 leader(3)=3",
            chain(20) + "equate(0, 1)=1 clear()=20 " + chain(20) + "classes()=20 leader(19)=19");
        sentence("clear: the pattern stays",
            constants(1) + "[20 1] clear()=1 matches()=0 binding(0, 1)=NONE constant(3)=0 one(0)=1 matches()=1 binding(0, 1)=0 "
                + "token(0)=3 wipe()=3",
            "[0 0 0 0 0 0 0] clear()=0 token(0)=FULL wipe()=7");
        sentence("clear: Answers how many nodes there were",
            "clear()=0 constant(0)=0 clear()=1 clear()=0",
            chain(20) + "one(19)=FULL clear()=20 clear()=0",
            // Nodes, not classes.
            constants(4) + "equate(0, 1)=3 equate(2, 3)=2 clear()=4");
    }

    private static void orderAndLimits() {
        sentence("token tests FULL before BAD",
            "[0 0 0 0 0 0 0] " + each("token(#)=FULL", "3 -1 9 16 19 22 MIN MAX") + "wipe()=7 token(3)=BAD");
        sentence("constant tests BAD before FULL",
            chain(20) + each("constant(#)=BAD", "-1 6 MIN MAX") + "constant(5)=FULL");
        sentence("one tests BAD before FULL",
            chain(20) + each("one(#)=BAD", "-1 20 MIN MAX") + "one(19)=FULL");
        sentence("two tests BAD before FULL",
            chain(20) + each("two(#, 0)=BAD two(0, #)=BAD two(#, #)=BAD", "-1 20 MIN MAX") + "two(0, 19)=FULL two(19, 0)=FULL");
        sentence("matchesAt tests BAD before NONE",
            "matchesAt(0)=BAD matchesAt(-1)=BAD constant(0)=0 matchesAt(1)=BAD [21 0] matchesAt(1)=BAD matchesAt(20)=BAD matchesAt(0)=NONE");
    }

    // ---- A refused call, and a call that only asks, leave everything as it was

    private static final String SOME = constants(3) + "two(0, 1)=3 two(1, 0)=4 one(4)=5 equate(3, 4)=5 [21 0 1] ";
    private static final String MOST = chain(20) + "equate(18, 3)=18 [20 20 20 20 20 20 0] ";
    private static final String CUT = constants(2) + "equate(0, 1)=1 [21 0] ";

    private static void refusedCalls() {
        for (String k : new String[] {"-1", "6", "MIN", "MAX"}) {
            changesNothing("constant(" + k + ")=BAD", "", SOME, MOST, CUT);
        }
        for (String a : new String[] {"-1", "20", "MIN", "MAX"}) {
            changesNothing("one(" + a + ")=BAD", "", SOME, MOST, CUT);
            changesNothing("two(" + a + ", 0)=BAD", "", SOME, MOST, CUT);
            changesNothing("two(0, " + a + ")=BAD", "", SOME, MOST, CUT);
            changesNothing("equate(" + a + ", 0)=BAD", "", SOME, MOST, CUT);
            changesNothing("equate(0, " + a + ")=BAD", "", SOME, MOST, CUT);
            changesNothing("leader(" + a + ")=BAD", "", SOME, MOST, CUT);
            changesNothing("matchesAt(" + a + ")=BAD", "", SOME, MOST, CUT);
        }
        changesNothing("constant(5)=FULL", MOST);
        changesNothing("one(19)=FULL", MOST);
        changesNothing("two(0, 19)=FULL", MOST);
        changesNothing("token(0)=FULL", MOST);
        changesNothing("token(3)=FULL", MOST);
        for (String t : new String[] {"-1", "3", "9", "16", "19", "22", "MIN", "MAX"}) {
            changesNothing("token(" + t + ")=BAD", "", SOME, CUT);
        }
        changesNothing("matches()=NONE", "", CUT);
        changesNothing("matchesAt(0)=NONE", CUT);
        changesNothing("binding(0, 0)=NONE", "", CUT);
        changesNothing("binding(0, 2)=NONE", "", SOME, MOST, CUT);
        changesNothing("binding(20, 0)=NONE", "", SOME, MOST, CUT);
        changesNothing("binding(-1, 0)=NONE", "", SOME, MOST, CUT);
        changesNothing("binding(0, 3)=BAD", "", SOME, MOST, CUT);
        changesNothing("binding(0, -1)=BAD", "", SOME, MOST, CUT);
    }

    private static void askingCalls() {
        changesNothing("leader(4)=3", SOME);
        changesNothing("classes()=5", SOME);
        changesNothing("matches()=2", SOME);
        changesNothing("matchesAt(4)=2", SOME);
        changesNothing("binding(1, 0)=1", SOME);
        changesNothing("constant(2)=2", SOME);
        changesNothing("one(4)=5", SOME);
        changesNothing("two(1, 0)=4", SOME);
        changesNothing("equate(4, 3)=5", SOME);
        changesNothing("equate(2, 2)=5", SOME);
    }

    private static void changesNothing(String call, String... befores) {
        sentences++;
        String words = "changes nothing: " + call;
        for (String before : befores) {
            for (int side = 0; side < SIDES; side++) {
                PatternTrees x = new PatternTrees();
                PatternTrees untouched = new PatternTrees();
                play(words, x, before);
                play(words, untouched, before);
                play(words, x, call);
                String got = seen(x, side);
                String want = seen(untouched, side);
                if (!got.equals(want)) {
                    tell(words, "after the run " + before + "is seen " + got + ", due is " + want);
                }
            }
        }
    }

    private static final int SIDES = 6;

    // One side of what can be seen of an object from outside. Each is looked at on objects of its own,
    // since what looking at one side does wrong could hide what the call did to another.
    private static String seen(PatternTrees x, int side) {
        StringBuilder seen = new StringBuilder();
        switch (side) {
            case 0:
                return "tokens " + x.wipe() + ", nodes " + x.clear();
            case 1:
                return "classes " + x.classes() + ", matches " + x.matches() + ", token " + x.token(0) + ", matches " + x.matches();
            case 2:
                for (int a = 0; a < 20; a++) {
                    seen.append(" leader " + x.leader(a));
                }
                return seen.toString();
            case 3:
                for (int a = 0; a < 20; a++) {
                    seen.append(" matchesAt " + x.matchesAt(a));
                }
                return seen.toString();
            case 4:
                for (int k = 0; k < 20; k++) {
                    seen.append(" bindings " + x.binding(k, 0) + " " + x.binding(k, 1) + " " + x.binding(k, 2));
                }
                return seen.toString();
            default:
                for (int k = 0; k < 6; k++) {
                    seen.append(" constant " + x.constant(k));
                }
                for (int a = 0; a < 20; a++) {
                    seen.append(" made of it " + x.one(a) + " " + x.two(a, 0) + " " + x.two(0, a));
                }
                return seen + ", then classes " + x.classes() + ", matches " + x.matches() + ", nodes " + x.clear();
        }
    }
}
