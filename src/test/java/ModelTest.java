import java.util.ArrayList;
import java.util.Arrays;
import java.util.List;
import java.util.TreeSet;

// Fixed runs of mixed calls, each answer compared with a model that follows the document's words:
// equality as a relation that is closed rule by rule, classes as sets, patterns as parsed terms.
public final class ModelTest {
    private static final int RUNS = 1500;
    private static final int CALLS = 512;
    private static int wrong = 0;
    private static final int[] answersSeen = new int[12];

    public static void main(String[] args) {
        for (int run = 0; run < RUNS && wrong == 0; run++) {
            new Run(run).go();
        }
        // Runs that never come near a case would prove nothing about it.
        for (int op = 0; op < OPS.length; op++) {
            if (wrong == 0 && answersSeen[op] == 0) {
                wrong++;
                System.out.println("no run got an ordinary answer from " + OPS[op]);
            }
        }
        System.out.println(wrong == 0 ? "all answers are as due" : wrong + " answers are not as due");
        if (wrong != 0) {
            System.exit(1);
        }
    }

    private static final String[] OPS = {
        "constant", "one", "two", "equate", "leader", "classes", "token", "wipe", "matches", "matchesAt", "binding", "clear",
    };

    private static final class Run {
        private final int number;
        private final PatternTrees real = new PatternTrees();
        private final Model model = new Model();
        private final List<String> told = new ArrayList<>();
        private long state;

        Run(int number) {
            this.number = number;
            state = 0x9E3779B97F4A7C15L * (number + 1);
        }

        // A fixed sequence of numbers, the same at every start of the test.
        private int below(int bound) {
            state = state * 6364136223846793005L + 1442695040888963407L;
            return (int) ((state >>> 33) % bound);
        }

        private int someNode() {
            if (below(40) == 0) {
                return new int[] {-1, -3, 20, 21, Integer.MIN_VALUE, Integer.MAX_VALUE}[below(6)];
            }
            int near = model.nodes.size() + (below(20) == 0 ? 1 : 0);
            return near == 0 ? 0 : below(near);
        }

        private int someToken() {
            if (below(30) == 0) {
                return new int[] {-1, 3, 9, 16, 19, 22, Integer.MIN_VALUE, Integer.MAX_VALUE}[below(8)];
            }
            int kind = below(10);
            if (kind < 5) {
                return below(3);
            }
            return kind < 6 ? 10 + below(6) : 20 + below(2);
        }

        // A whole pattern is rare among tokens drawn one by one, so most are drawn as terms.
        private void drawTerm(List<Integer> into, int room) {
            int kind = room <= 1 ? 0 : below(3);
            if (kind == 2 && room >= 3) {
                into.add(21);
                int first = 1 + below(room - 2);
                drawTerm(into, first);
                drawTerm(into, room - 1 - first);
            } else if (kind >= 1) {
                into.add(20);
                drawTerm(into, room - 1);
            } else {
                into.add(below(5) == 0 ? 10 + below(3) : below(3));
            }
        }

        void go() {
            // Runs differ in how often they equate, so that in some the classes stay apart and in others fall together.
            int equations = number % 4;
            int calls = 0;
            while (calls < CALLS && wrong == 0) {
                int what = below(100);
                if (what < 4 && calls + 8 <= CALLS) {
                    List<Integer> drawn = new ArrayList<>();
                    drawTerm(drawn, 1 + below(7));
                    call(7, 0, 0);
                    for (int t : drawn) {
                        call(6, t, 0);
                    }
                    calls += 1 + drawn.size();
                } else {
                    oneCall(what, equations);
                    calls++;
                }
            }
        }

        private void oneCall(int what, int equations) {
            if (what < 8) {
                call(0, below(25) == 0 ? new int[] {-1, 6, Integer.MAX_VALUE}[below(3)] : below(6), 0);
            } else if (what < 18) {
                call(1, someNode(), 0);
            } else if (what < 36) {
                call(2, someNode(), someNode());
            } else if (what < 38 + equations) {
                call(3, someNode(), someNode());
            } else if (what < 50) {
                call(4, someNode(), 0);
            } else if (what < 54) {
                call(5, 0, 0);
            } else if (what < 57) {
                call(6, someToken(), 0);
            } else if (what < 58) {
                call(7, 0, 0);
            } else if (what < 70) {
                call(8, 0, 0);
            } else if (what < 80) {
                call(9, someNode(), 0);
            } else if (what < 98) {
                int most = model.matchList() == null ? 0 : model.matchList().size();
                call(10, below(most + 2) - (below(20) == 0 ? 1 : 0), below(25) == 0 ? 4 * below(2) - 1 : below(3));
            } else if (what < 99 || model.nodes.size() == 20) {
                call(11, 0, 0);
            }
        }

        private void call(int op, int a, int b) {
            int got = answer(op, a, b);
            int want = model.answer(op, a, b);
            String name = OPS[op] + "(" + a + ", " + b + ")";
            told.add(name + " = " + want);
            if (want >= 0) {
                answersSeen[op]++;
            }
            if (got != want && wrong++ == 0) {
                System.out.println("run " + number + ": " + String.join("; ", told));
                System.out.println(name + " answered " + got + ", due is " + want);
            }
        }

        private int answer(int op, int a, int b) {
            switch (op) {
                case 0: return real.constant(a);
                case 1: return real.one(a);
                case 2: return real.two(a, b);
                case 3: return real.equate(a, b);
                case 4: return real.leader(a);
                case 5: return real.classes();
                case 6: return real.token(a);
                case 7: return real.wipe();
                case 8: return real.matches();
                case 9: return real.matchesAt(a);
                case 10: return real.binding(a, b);
                default: return real.clear();
            }
        }
    }

    // A term of a pattern: a variable, a constant, g of one term or f of two.
    private static final class Term {
        int token;
        Term first;
        Term second;
    }

    private static final class Model {
        // A node is {symbol, children...}.
        final List<int[]> nodes = new ArrayList<>();
        private final List<int[]> equations = new ArrayList<>();
        private final List<Integer> pattern = new ArrayList<>();
        private boolean[][] equal = new boolean[0][0];
        private List<int[]> matchesKept;
        private List<Integer> valuesKept;
        private boolean stale = true;
        private int readAt;

        int answer(int op, int a, int b) {
            switch (op) {
                case 0: return a < 0 || a > 5 ? -1 : make(10 + a);
                case 1: return !there(a) ? -1 : make(20, a);
                case 2: return !there(a) || !there(b) ? -1 : make(21, a, b);
                case 3: return equate(a, b);
                case 4: return !there(a) ? -1 : leader(a);
                case 5: return leaders().size();
                case 6: return token(a);
                case 7: return wipe();
                case 8: return matchList() == null ? -3 : matchList().size();
                case 9: return matchesAt(a);
                case 10: return binding(a, b);
                default: return clear();
            }
        }

        private boolean there(int a) {
            return 0 <= a && a < nodes.size();
        }

        private int make(int... node) {
            for (int i = 0; i < nodes.size(); i++) {
                if (Arrays.equals(nodes.get(i), node)) {
                    return i;
                }
            }
            if (nodes.size() == 20) {
                return -2;
            }
            nodes.add(node);
            closeEquality();
            return nodes.size() - 1;
        }

        private int equate(int a, int b) {
            if (!there(a) || !there(b)) {
                return -1;
            }
            equations.add(new int[] {a, b});
            closeEquality();
            return leaders().size();
        }

        // From the equations alone, anew each time, until no rule adds a pair.
        private void closeEquality() {
            stale = true;
            int n = nodes.size();
            equal = new boolean[n][n];
            for (int i = 0; i < n; i++) {
                equal[i][i] = true;
            }
            for (int[] e : equations) {
                equal[e[0]][e[1]] = true;
            }
            boolean grew = true;
            while (grew) {
                grew = false;
                for (int i = 0; i < n; i++) {
                    for (int j = 0; j < n; j++) {
                        if (!equal[i][j] && (equal[j][i] || passesOn(i, j) || congruent(nodes.get(i), nodes.get(j)))) {
                            equal[i][j] = true;
                            grew = true;
                        }
                    }
                }
            }
        }

        private boolean passesOn(int i, int j) {
            for (int k = 0; k < nodes.size(); k++) {
                if (equal[i][k] && equal[k][j]) {
                    return true;
                }
            }
            return false;
        }

        private boolean congruent(int[] x, int[] y) {
            boolean same = x[0] == y[0] && x.length > 1;
            for (int c = 1; same && c < x.length; c++) {
                same = equal[x[c]][y[c]];
            }
            return same;
        }

        private int leader(int a) {
            int i = 0;
            while (!equal[a][i]) {
                i++;
            }
            return i;
        }

        private TreeSet<Integer> leaders() {
            TreeSet<Integer> all = new TreeSet<>();
            for (int i = 0; i < nodes.size(); i++) {
                all.add(leader(i));
            }
            return all;
        }

        private int token(int t) {
            if (pattern.size() == 7) {
                return -2;
            }
            if (!List.of(0, 1, 2, 10, 11, 12, 13, 14, 15, 20, 21).contains(t)) {
                return -1;
            }
            pattern.add(t);
            stale = true;
            return pattern.size();
        }

        private int wipe() {
            int had = pattern.size();
            pattern.clear();
            stale = true;
            return had;
        }

        private int clear() {
            int had = nodes.size();
            nodes.clear();
            equations.clear();
            closeEquality();
            return had;
        }

        private Term readTerm() {
            if (readAt == pattern.size()) {
                return null;
            }
            Term term = new Term();
            term.token = pattern.get(readAt++);
            if (term.token >= 20) {
                term.first = readTerm();
                term.second = term.token == 21 && term.first != null ? readTerm() : null;
                boolean short1 = term.first == null;
                boolean short2 = term.token == 21 && term.second == null;
                return short1 || short2 ? null : term;
            }
            return term;
        }

        // The matches in their order, each {class of 0, of 1, of 2}; null if the pattern is not whole.
        List<int[]> matchList() {
            if (stale) {
                stale = false;
                readAt = 0;
                Term whole = readTerm();
                matchesKept = null;
                if (whole != null && readAt == pattern.size()) {
                    matchesKept = new ArrayList<>();
                    valuesKept = new ArrayList<>();
                    bindFrom(0, new int[3], whole, new ArrayList<>(leaders()));
                }
            }
            return matchesKept;
        }

        private void bindFrom(int v, int[] bound, Term whole, List<Integer> classes) {
            if (v == 3) {
                int value = value(whole, bound);
                if (value >= 0) {
                    matchesKept.add(bound.clone());
                    valuesKept.add(value);
                }
            } else if (!pattern.contains(v)) {
                bindFrom(v + 1, bound, whole, classes);
            } else {
                for (int c : classes) {
                    bound[v] = c;
                    bindFrom(v + 1, bound, whole, classes);
                }
            }
        }

        private int value(Term term, int[] bound) {
            if (term.token < 3) {
                return bound[term.token];
            }
            int first = term.first == null ? 0 : value(term.first, bound);
            int second = term.second == null ? 0 : value(term.second, bound);
            if (first < 0 || second < 0) {
                return -1;
            }
            for (int i = 0; i < nodes.size(); i++) {
                int[] node = nodes.get(i);
                if (node[0] == term.token
                        && (term.first == null || equal[node[1]][first])
                        && (term.second == null || equal[node[2]][second])) {
                    return leader(i);
                }
            }
            return -1;
        }

        private int matchesAt(int a) {
            if (!there(a)) {
                return -1;
            }
            if (matchList() == null) {
                return -3;
            }
            int count = 0;
            for (int value : valuesKept) {
                count += value == leader(a) ? 1 : 0;
            }
            return count;
        }

        private int binding(int k, int v) {
            if (v < 0 || v > 2) {
                return -1;
            }
            if (matchList() == null || !pattern.contains(v) || k < 0 || k >= matchList().size()) {
                return -3;
            }
            return matchList().get(k)[v];
        }
    }
}
