/** Grammars whose choices are tried in order, and what of a text they match. */
public final class PegTables {
    public static final int LETTER = 0;
    public static final int ANY = 1;
    public static final int NOTHING = 2;
    public static final int CALL = 3;
    public static final int THEN = 4;
    public static final int ELSE = 5;
    public static final int STAR = 6;
    public static final int MAYBE = 7;
    public static final int AHEAD = 8;
    public static final int NOT = 9;
    public static final int DEFINE = 10;
    public static final int FAILS = -1;
    public static final int STUCK = -2;

    private static final int REFUSED = -1;
    private static final int NOT_FOUND = -1;
    private static final int WRONG_ARGUMENT = -3;
    private static final int NO_EXPRESSION = -1;

    private static final int RULES = 4;
    private static final int LOW_BITS = 3;
    private static final int MAX_LETTERS = 20;
    private static final int MAX_PLACES = MAX_LETTERS + 1;
    private static final int MAX_TOKENS = 40;
    private static final int MAX_OUTCOMES = MAX_TOKENS * MAX_PLACES;

    private final int[] text = new int[MAX_LETTERS];
    private int length;

    // Expressions are numbered in the order they were made, so the parts of one
    // always have lesser numbers than it has itself.
    private final int[] codes = new int[MAX_TOKENS];
    private final int[] args = new int[MAX_TOKENS];
    private final int[] firsts = new int[MAX_TOKENS];
    private final int[] seconds = new int[MAX_TOKENS];
    private int made;
    private int tokens;

    private final int[] stack = new int[MAX_TOKENS];
    private int height;

    private final int[] ruleExpressions = new int[RULES];

    // The row of expression e starts at e * MAX_PLACES. STUCK stands for an
    // outcome that has not followed yet, and so for none at all in the end.
    private final int[] outcomes = new int[MAX_OUTCOMES];

    public PegTables() {
        forgetGrammar();
        length = 0;
    }

    public int token(int code, int arg) {
        if (code < LETTER || code > DEFINE || tokens >= MAX_TOKENS) {
            return REFUSED;
        }
        int taken = partsOf(code);
        if (height < taken) {
            return REFUSED;
        }
        tokens++;
        height -= taken;
        if (code == DEFINE) {
            ruleExpressions[arg & LOW_BITS] = stack[height];
        } else {
            makeExpression(code, arg & LOW_BITS);
        }
        return height;
    }

    public void clear() {
        forgetGrammar();
    }

    public int type(int letter) {
        if (length >= MAX_LETTERS) {
            return REFUSED;
        }
        text[length] = letter & LOW_BITS;
        length++;
        return length;
    }

    public void erase() {
        length = 0;
    }

    public int match(int rule, int place) {
        if (!isRule(rule) || place < 0 || place > length) {
            return WRONG_ARGUMENT;
        }
        fillOutcomes();
        return outcomeOf(ruleExpressions[rule], place);
    }

    public int matches(int rule) {
        if (!isRule(rule)) {
            return WRONG_ARGUMENT;
        }
        fillOutcomes();
        int count = 0;
        for (int place = 0; place <= length; place++) {
            if (outcomeOf(ruleExpressions[rule], place) >= 0) {
                count++;
            }
        }
        return count;
    }

    public int find(int rule, int from) {
        if (!isRule(rule)) {
            return WRONG_ARGUMENT;
        }
        fillOutcomes();
        for (int place = 0; place <= length; place++) {
            if (place >= from && outcomeOf(ruleExpressions[rule], place) >= 0) {
                return place;
            }
        }
        return NOT_FOUND;
    }

    public int whole(int rule) {
        if (!isRule(rule)) {
            return WRONG_ARGUMENT;
        }
        fillOutcomes();
        return outcomeOf(ruleExpressions[rule], 0) == length ? 1 : 0;
    }

    public int stuck(int rule) {
        if (!isRule(rule)) {
            return WRONG_ARGUMENT;
        }
        fillOutcomes();
        int count = 0;
        for (int place = 0; place <= length; place++) {
            if (outcomeOf(ruleExpressions[rule], place) == STUCK) {
                count++;
            }
        }
        return count;
    }

    private static boolean isRule(int rule) {
        return rule >= 0 && rule < RULES;
    }

    /** How many expressions a token takes off the stack. */
    private static int partsOf(int code) {
        if (code <= CALL) {
            return 0;
        }
        return code == THEN || code == ELSE ? 2 : 1;
    }

    private void forgetGrammar() {
        made = 0;
        tokens = 0;
        height = 0;
        for (int rule = 0; rule < RULES; rule++) {
            ruleExpressions[rule] = NO_EXPRESSION;
        }
    }

    /** Expects that the parts have just been taken off, so that they still lie above the stack's top. */
    private void makeExpression(int code, int arg) {
        int parts = partsOf(code);
        codes[made] = code;
        args[made] = arg;
        firsts[made] = parts >= 1 ? stack[height] : NO_EXPRESSION;
        seconds[made] = parts == 2 ? stack[height + 1] : NO_EXPRESSION;
        stack[height] = made;
        height++;
        made++;
    }

    /**
     * Outcomes at a place follow only from those at it and at later places, so
     * places are done from the last to the first.
     */
    private void fillOutcomes() {
        forgetOutcomes();
        for (int place = length; place >= 0; place--) {
            boolean learned = true;
            // A sweep that isn't the last learns at least one of the made outcomes.
            for (int sweep = 0; sweep < made && learned; sweep++) {
                learned = sweepPlace(place);
            }
        }
    }

    private void forgetOutcomes() {
        for (int cell = 0; cell < MAX_OUTCOMES; cell++) {
            outcomes[cell] = STUCK;
        }
    }

    /** Answers whether an outcome at the place was learned that wasn't known before. */
    private boolean sweepPlace(int place) {
        boolean learned = false;
        for (int e = 0; e < made; e++) {
            int cell = e * MAX_PLACES + place;
            if (outcomes[cell] == STUCK) {
                outcomes[cell] = codes[e] <= CALL ? outcomeOfSimple(e, place) : outcomeOfCompound(e, place);
                learned = learned || outcomes[cell] != STUCK;
            }
        }
        return learned;
    }

    private int outcomeOfSimple(int e, int place) {
        switch (codes[e]) {
            case LETTER:
                return place < length && text[place] == args[e] ? 1 : FAILS;
            case ANY:
                return place < length ? 1 : FAILS;
            case NOTHING:
                return 0;
            default:
                return outcomeOf(ruleExpressions[args[e]], place);
        }
    }

    private int outcomeOfCompound(int e, int place) {
        int first = outcomeOf(firsts[e], place);
        // Each of the document's rules for these starts from the first part's outcome.
        if (first == STUCK) {
            return STUCK;
        }
        boolean fails = first == FAILS;
        int rest;
        switch (codes[e]) {
            case THEN:
                rest = fails ? FAILS : outcomeOf(seconds[e], place + first);
                return joined(first, rest);
            case ELSE:
                return fails ? outcomeOf(seconds[e], place) : first;
            case STAR:
                if (fails || first == 0) {
                    return 0;
                }
                rest = outcomeOf(e, place + first);
                return joined(first, rest);
            case MAYBE:
                return fails ? 0 : first;
            case AHEAD:
                return fails ? FAILS : 0;
            default:
                return fails ? 0 : FAILS;
        }
    }

    /** The outcome of letters already matched followed by a rest with the given outcome. */
    private static int joined(int matched, int rest) {
        return rest >= 0 ? matched + rest : rest;
    }

    /** The outcome known so far; a rule without an expression fails everywhere. */
    private int outcomeOf(int e, int place) {
        if (e == NO_EXPRESSION) {
            return FAILS;
        }
        int cell = e * MAX_PLACES + place;
        return cell >= 0 && cell < MAX_OUTCOMES ? outcomes[cell] : STUCK;
    }
}
