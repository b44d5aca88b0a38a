import java.util.ArrayList;
import java.util.HashMap;
import java.util.HashSet;
import java.util.List;
import java.util.Map;
import java.util.Set;

/**
 * Made-up runs of calls, each answer held against a second evaluator that goes
 * down from the question by recursion and is stuck where it meets itself again.
 */
final class ReferenceTest {
    private static final int RUNS = 2500;
    // As many as the document lets an object be used for.
    private static final int CALLS = 512;
    private static final int WRONG_ENOUGH = 20;

    private static final Checks CHECKS = new Checks();

    // A fixed start, so that each run of this test makes the same calls.
    private static long seed = 20261115L;

    private ReferenceTest() {
    }

    public static void main(String[] args) {
        for (int run = 0; run < RUNS && CHECKS.wrong() < WRONG_ENOUGH; run++) {
            makeRun(run);
        }
        CHECKS.end();
    }

    private static int below(int bound) {
        seed = seed * 6364136223846793005L + 1442695040888963407L;
        return (int) ((seed >>> 33) % bound);
    }

    /** Now and then another number with the same two lowest bits, of any size and sign. */
    private static int masked(int low) {
        return below(8) == 0 ? below(Integer.MAX_VALUE) << 2 | low : low;
    }

    private static void makeRun(int run) {
        PegTables x = new PegTables();
        Reference y = new Reference();
        // Few letters make long matches likely, few simple tokens make large expressions likely.
        int letters = 1 + below(4);
        int simple = 3 + below(5);
        for (int call = 0; call < CALLS; call++) {
            makeCall("run " + run + ", call " + call + ": ", x, y, letters, simple);
        }
    }

    private static void makeCall(String at, PegTables x, Reference y, int letters, int simple) {
        int kind = below(100);
        int rule = below(40) == 0 ? below(12) - 6 : below(4);
        int place = below(24) - 1;
        if (kind < 40) {
            int code = below(60) == 0 ? below(20) - 5 : below(10) < simple ? below(4) : 4 + below(7);
            int arg = masked(code == PegTables.LETTER ? below(letters) : below(4));
            CHECKS.due(at + "token(" + code + ", " + arg + ")", x.token(code, arg), y.token(code, arg));
        } else if (kind < 60) {
            int letter = masked(below(letters));
            CHECKS.due(at + "type(" + letter + ")", x.type(letter), y.type(letter));
        } else if (kind < 62) {
            x.clear();
            y.clear();
        } else if (kind < 63) {
            x.erase();
            y.erase();
        } else if (kind < 80) {
            CHECKS.due(at + "match(" + rule + ", " + place + ")", x.match(rule, place), y.match(rule, place));
        } else if (kind < 85) {
            CHECKS.due(at + "matches(" + rule + ")", x.matches(rule), y.matches(rule));
        } else if (kind < 90) {
            CHECKS.due(at + "find(" + rule + ", " + place + ")", x.find(rule, place), y.find(rule, place));
        } else if (kind < 95) {
            CHECKS.due(at + "whole(" + rule + ")", x.whole(rule), y.whole(rule));
        } else {
            CHECKS.due(at + "stuck(" + rule + ")", x.stuck(rule), y.stuck(rule));
        }
    }

    private static final class Expression {
        final int code;
        final int arg;
        final Expression first;
        final Expression second;

        Expression(int code, int arg, Expression first, Expression second) {
            this.code = code;
            this.arg = arg;
            this.first = first;
            this.second = second;
        }
    }

    /** Told apart from every outcome; thrown through all that waits for it. */
    private static final class Stuck extends Exception {
        private static final long serialVersionUID = 1L;

        Stuck() {
            super(null, null, false, false);
        }
    }

    private static final class Reference {
        private final List<Integer> text = new ArrayList<>();
        private final List<Expression> stack = new ArrayList<>();
        private final Expression[] rules = new Expression[4];
        private int tokens = 0;
        private final Map<Expression, Map<Integer, Integer>> known = new HashMap<>();
        private final Map<Expression, Set<Integer>> waiting = new HashMap<>();

        int token(int code, int arg) {
            int parts = code <= 3 ? 0 : code <= 5 ? 2 : 1;
            if (code < 0 || code > 10 || tokens == 40 || stack.size() < parts) {
                return -1;
            }
            tokens++;
            Expression second = parts == 2 ? stack.remove(stack.size() - 1) : null;
            Expression first = parts >= 1 ? stack.remove(stack.size() - 1) : null;
            if (code == 10) {
                rules[arg & 3] = first;
            } else {
                stack.add(new Expression(code, arg & 3, first, second));
            }
            return stack.size();
        }

        void clear() {
            stack.clear();
            tokens = 0;
            for (int rule = 0; rule < 4; rule++) {
                rules[rule] = null;
            }
        }

        int type(int letter) {
            if (text.size() == 20) {
                return -1;
            }
            text.add(letter & 3);
            return text.size();
        }

        void erase() {
            text.clear();
        }

        int match(int rule, int place) {
            if (rule < 0 || rule > 3 || place < 0 || place > text.size()) {
                return -3;
            }
            known.clear();
            waiting.clear();
            try {
                return rules[rule] == null ? -1 : outcome(rules[rule], place);
            } catch (Stuck e) {
                return -2;
            }
        }

        int matches(int rule) {
            int count = 0;
            for (int place = 0; place <= text.size(); place++) {
                count += match(rule, place) >= 0 ? 1 : 0;
            }
            return rule < 0 || rule > 3 ? -3 : count;
        }

        int find(int rule, int from) {
            for (int place = Integer.max(from, 0); place <= text.size(); place++) {
                if (match(rule, place) >= 0) {
                    return place;
                }
            }
            return rule < 0 || rule > 3 ? -3 : -1;
        }

        int whole(int rule) {
            return rule < 0 || rule > 3 ? -3 : match(rule, 0) == text.size() ? 1 : 0;
        }

        int stuck(int rule) {
            int count = 0;
            for (int place = 0; place <= text.size(); place++) {
                count += match(rule, place) == -2 ? 1 : 0;
            }
            return rule < 0 || rule > 3 ? -3 : count;
        }

        private int outcome(Expression x, int p) throws Stuck {
            Map<Integer, Integer> row = known.computeIfAbsent(x, k -> new HashMap<>());
            if (!row.containsKey(p)) {
                if (!waiting.computeIfAbsent(x, k -> new HashSet<>()).add(p)) {
                    throw new Stuck();
                }
                row.put(p, follow(x, p));
            }
            return row.get(p);
        }

        private int follow(Expression x, int p) throws Stuck {
            boolean end = p == text.size();
            int a;
            int b;
            switch (x.code) {
                case 0:
                    return !end && text.get(p) == x.arg ? 1 : -1;
                case 1:
                    return end ? -1 : 1;
                case 2:
                    return 0;
                case 3:
                    return rules[x.arg] == null ? -1 : outcome(rules[x.arg], p);
                case 4:
                    a = outcome(x.first, p);
                    if (a == -1) {
                        return -1;
                    }
                    b = outcome(x.second, p + a);
                    return b == -1 ? -1 : a + b;
                case 5:
                    a = outcome(x.first, p);
                    return a == -1 ? outcome(x.second, p) : a;
                case 6:
                    a = outcome(x.first, p);
                    return a <= 0 ? 0 : a + outcome(x, p + a);
                case 7:
                    return Integer.max(outcome(x.first, p), 0);
                case 8:
                    return outcome(x.first, p) == -1 ? -1 : 0;
                default:
                    return outcome(x.first, p) == -1 ? 0 : -1;
            }
        }
    }
}
