/** For each promise of the document its ordinary inputs, its edges and wrong inputs. */
final class PromisesTest {
    private static final int FAILS = PegTables.FAILS;
    private static final int STUCK = PegTables.STUCK;
    private static final int WRONG = -3;
    private static final int MIN = Integer.MIN_VALUE;
    private static final int MAX = Integer.MAX_VALUE;
    private static final int[] NO_RULES = {-1, 4, 5, 7, 9, -4, MIN, MAX};

    private static final Checks CHECKS = new Checks();

    private PromisesTest() {
    }

    public static void main(String[] args) {
        newObject();
        tokenAnswersTheHeight();
        tokenRefusesWrongCodes();
        tokenRefusesTooFewExpressions();
        tokenRefusesTheFortyFirst();
        tokenMasksItsArgument();
        definePutsInPlace();
        clearRemovesTheGrammarAlone();
        typeAddsLetters();
        eraseEmptiesTheTextAlone();
        matchOfSimpleExpressions();
        matchOfThenAndElse();
        matchOfStarAndMaybe();
        matchOfAheadAndNot();
        matchRefusesWrongArguments();
        matchesCountsNumbers();
        findSeeksFromAPlace();
        wholeAsksForTheWholeText();
        stuckCountsPlacesWithoutOutcome();
        callOfRulesWithoutExpression();
        outcomesFollowInFinitelyManySteps();
        choicesAreTriedInOrder();
        callsSeeTheRuleAsItIsNow();
        queriesChangeNothing();
        objectsAreApart();
        CHECKS.end();
    }

    private static void due(String what, long got, long want) {
        CHECKS.due(what, got, want);
    }

    /** What rule 0 answers at each place of the text. */
    private static void dueAtPlaces(String grammar, String text, int... want) {
        PegTables x = Checks.object(grammar, text);
        for (int place = 0; place < want.length; place++) {
            due("[" + grammar + "] on '" + text + "': match(0, " + place + ")", x.match(0, place), want[place]);
        }
        due("[" + grammar + "] on '" + text + "': after the end", x.match(0, want.length), WRONG);
    }

    // Promise 1

    private static void newObject() {
        PegTables x = new PegTables();
        for (int rule = 0; rule < 4; rule++) {
            due("new: match(" + rule + ", 0)", x.match(rule, 0), FAILS);
            due("new: matches", x.matches(rule), 0);
            due("new: find", x.find(rule, 0), -1);
            due("new: whole", x.whole(rule), 0);
            due("new: stuck", x.stuck(rule), 0);
        }
        due("new: match at place 1", x.match(0, 1), WRONG);
        due("new: define without expression", x.token(PegTables.DEFINE, 0), -1);
        due("new: first letter", x.type(0), 1);
        due("new: first token", x.token(PegTables.ANY, 0), 1);
    }

    // Promise 2

    private static void tokenAnswersTheHeight() {
        PegTables x = new PegTables();
        due("LETTER", x.token(PegTables.LETTER, 0), 1);
        due("ANY", x.token(PegTables.ANY, 0), 2);
        due("NOTHING", x.token(PegTables.NOTHING, 0), 3);
        due("CALL", x.token(PegTables.CALL, 0), 4);
        due("THEN", x.token(PegTables.THEN, 0), 3);
        due("ELSE", x.token(PegTables.ELSE, 0), 2);
        due("STAR", x.token(PegTables.STAR, 0), 2);
        due("MAYBE", x.token(PegTables.MAYBE, 0), 2);
        due("AHEAD", x.token(PegTables.AHEAD, 0), 2);
        due("NOT", x.token(PegTables.NOT, 0), 2);
        due("DEFINE", x.token(PegTables.DEFINE, 0), 1);
        due("DEFINE again", x.token(PegTables.DEFINE, 1), 0);
        due("DEFINE on an empty stack", x.token(PegTables.DEFINE, 1), -1);
    }

    private static void tokenRefusesWrongCodes() {
        PegTables x = Checks.object("a =0 b", "ab");
        for (int code : new int[] {-1, -2, 11, 12, 16, 256, MIN, MAX}) {
            due("token(" + code + ", 0)", x.token(code, 0), -1);
        }
        due("the rule stays", x.match(0, 0), 1);
        due("the stack stays", x.token(PegTables.DEFINE, 1), 0);
        due("the expression on it stays", x.match(1, 1), 1);
    }

    private static void tokenRefusesTooFewExpressions() {
        PegTables x = new PegTables();
        for (int code = PegTables.THEN; code <= PegTables.DEFINE; code++) {
            due("token(" + code + ", 0) on an empty stack", x.token(code, 0), -1);
        }
        due("one expression", x.token(PegTables.LETTER, 1), 1);
        due("THEN with one", x.token(PegTables.THEN, 0), -1);
        due("ELSE with one", x.token(PegTables.ELSE, 0), -1);
        due("DEFINE with one", x.token(PegTables.DEFINE, 0), 0);
        x.type(1);
        due("what was left on the stack", x.match(0, 0), 1);
    }

    private static void tokenRefusesTheFortyFirst() {
        PegTables x = new PegTables();
        for (int i = 1; i <= 40; i++) {
            due("token " + i, x.token(PegTables.ANY, 0), i);
            due("refused tokens are not counted", x.token(11, 0), -1);
        }
        for (int code = 0; code <= 10; code++) {
            due("token 41 with code " + code, x.token(code, 0), -1);
        }
        due("token 41 defines nothing", x.match(0, 0), FAILS);
        x.clear();
        due("after clear", x.token(PegTables.ANY, 0), 1);

        PegTables y = new PegTables();
        for (int i = 0; i < 20; i++) {
            due("pair " + i, Checks.tokens(y, i == 19 ? "a =0" : "b =0"), 0);
        }
        due("DEFINE is counted too", y.token(PegTables.ANY, 0), -1);
        y.type(0);
        due("the last of 40 is taken", y.match(0, 0), 1);

        PegTables z = new PegTables();
        for (int i = 0; i < 20; i++) {
            z.token(PegTables.ANY, 0);
        }
        for (int i = 0; i < 19; i++) {
            due("THEN " + i, z.token(PegTables.THEN, 0), 19 - i);
        }
        due("DEFINE as token 40", z.token(PegTables.DEFINE, 3), 0);
        Checks.type(z, "abcdabcdabcdabcdabcd");
        due("twenty letters", z.match(3, 0), 20);
        due("twenty letters from place 1", z.match(3, 1), FAILS);
    }

    private static void tokenMasksItsArgument() {
        int[] arguments = {0, 1, 2, 3, 4, 7, -1, -2, -4, 102, MIN, MAX};
        for (int arg : arguments) {
            PegTables x = Checks.object("", "abcd");
            x.token(PegTables.LETTER, arg);
            x.token(PegTables.DEFINE, arg);
            for (int rule = 0; rule < 4; rule++) {
                boolean same = rule == (arg & 3);
                due("LETTER and DEFINE " + arg + ", rule " + rule, x.find(rule, 0), same ? rule : -1);
            }
            x.token(PegTables.CALL, arg);
            x.token(PegTables.DEFINE, arg + 1);
            due("CALL " + arg, x.find((arg + 1) & 3, 0), arg & 3);
        }
        PegTables y = Checks.object("", "a");
        due("arguments of the others are free", y.token(PegTables.ANY, MIN), 1);
        due("arguments of the others are free", y.token(PegTables.STAR, MAX), 1);
        due("arguments of the others are free", y.token(PegTables.DEFINE, 0), 0);
        due("arguments of the others are free", y.match(0, 0), 1);
    }

    private static void definePutsInPlace() {
        PegTables x = Checks.object("a =0 b =1", "ab");
        due("before", x.match(0, 0), 1);
        Checks.tokens(x, "b =0");
        due("in place of what it had", x.match(0, 0), FAILS);
        due("in place of what it had", x.match(0, 1), 1);
        due("the other rule stays", x.match(1, 1), 1);
        Checks.tokens(x, "a b =2");
        due("the top is taken", x.match(2, 0), FAILS);
        due("the top is taken", x.match(2, 1), 1);
        Checks.tokens(x, "=3");
        due("the next is taken", x.match(3, 0), 1);
    }

    // Promise 3

    private static void clearRemovesTheGrammarAlone() {
        PegTables x = Checks.object("a =0 b =1 c =2 d =3 a b", "abcd");
        x.clear();
        due("the stack is empty", x.token(PegTables.STAR, 0), -1);
        for (int rule = 0; rule < 4; rule++) {
            due("rule " + rule + " has none", x.matches(rule), 0);
            due("rule " + rule + " fails", x.match(rule, rule), FAILS);
        }
        due("the text stays", x.match(0, 4), FAILS);
        due("the text stays", x.type(0), 5);
        for (int i = 1; i <= 40; i++) {
            due("all tokens are removed", x.token(PegTables.LETTER, 2), i);
        }
        due("forty again", x.token(PegTables.LETTER, 2), -1);
        x.clear();
        Checks.tokens(x, "c =0");
        due("a new grammar on the old text", x.find(0, 0), 2);
        due("one place", x.matches(0), 1);
    }

    // Promise 4

    private static void typeAddsLetters() {
        PegTables x = Checks.object("a =0 b =1 c =2 d =3", "");
        int[] letters = {0, 1, 2, 3, 4, 5, 6, 7, -1, -2, -3, -4, MIN, MAX, 100, 103, 8, 9, 10, 11};
        for (int i = 0; i < letters.length; i++) {
            due("type(" + letters[i] + ")", x.type(letters[i]), i + 1);
        }
        due("the twenty-first", x.type(0), -1);
        due("the twenty-second", x.type(3), -1);
        for (int i = 0; i < letters.length; i++) {
            for (int rule = 0; rule < 4; rule++) {
                due("letter " + i + " against " + rule, x.match(rule, i), rule == (letters[i] & 3) ? 1 : FAILS);
            }
        }
        due("place 20", x.match(0, 20), FAILS);
        due("place 21", x.match(0, 21), WRONG);
    }

    // Promise 5

    private static void eraseEmptiesTheTextAlone() {
        PegTables x = Checks.object("ANY STAR =0 a b", "abcdabcdabcdabcdabcd");
        due("before", x.match(0, 0), 20);
        x.erase();
        due("no letters", x.match(0, 0), 0);
        due("no place 1", x.match(0, 1), WRONG);
        due("the empty text as a whole", x.whole(0), 1);
        due("the stack stays", x.token(PegTables.THEN, 0), 1);
        due("type again", x.type(1), 1);
        due("the rule stays", x.match(0, 0), 1);
        x.erase();
        x.erase();
        due("erase of an empty text", x.type(0), 1);
    }

    // Promise 6

    private static void matchOfSimpleExpressions() {
        dueAtPlaces("b =0", "abba", FAILS, 1, 1, FAILS, FAILS);
        dueAtPlaces("a =0", "", FAILS);
        dueAtPlaces("ANY =0", "ad", 1, 1, FAILS);
        dueAtPlaces("NOTHING =0", "ad", 0, 0, 0);
        dueAtPlaces("@1 =0 c =1", "cd", 1, FAILS, FAILS);
    }

    private static void matchOfThenAndElse() {
        dueAtPlaces("a b THEN =0", "abaa", 2, FAILS, FAILS, FAILS, FAILS);
        dueAtPlaces("ANY NOTHING THEN =0", "ab", 1, 1, FAILS);
        dueAtPlaces("NOTHING ANY THEN =0", "ab", 1, 1, FAILS);
        dueAtPlaces("a STAR b STAR THEN =0", "aabba", 4, 3, 2, 1, 1, 0);
        dueAtPlaces("a b ELSE =0", "abc", 1, 1, FAILS, FAILS);
        dueAtPlaces("a b THEN a ELSE =0", "aba", 2, FAILS, 1, FAILS);
        dueAtPlaces("NOTHING a ELSE =0", "aa", 0, 0, 0);
    }

    private static void matchOfStarAndMaybe() {
        dueAtPlaces("a STAR =0", "aabaaa", 2, 1, 0, 3, 2, 1, 0);
        dueAtPlaces("a b THEN STAR =0", "ababa", 4, 0, 2, 0, 0, 0);
        dueAtPlaces("a STAR STAR =0", "aab", 2, 1, 0, 0);
        dueAtPlaces("NOTHING STAR =0", "ab", 0, 0, 0);
        dueAtPlaces("a MAYBE STAR =0", "aab", 2, 1, 0, 0);
        dueAtPlaces("a STAR a THEN =0", "aa", FAILS, FAILS, FAILS);
        dueAtPlaces("a MAYBE =0", "aab", 1, 1, 0, 0);
        dueAtPlaces("ANY ANY THEN MAYBE =0", "abc", 2, 2, 0, 0);
    }

    private static void matchOfAheadAndNot() {
        dueAtPlaces("a AHEAD =0", "ab", 0, FAILS, FAILS);
        dueAtPlaces("a b THEN AHEAD ANY THEN =0", "abaab", 1, FAILS, FAILS, 1, FAILS, FAILS);
        dueAtPlaces("NOTHING AHEAD =0", "a", 0, 0);
        dueAtPlaces("a NOT =0", "ab", FAILS, 0, 0);
        dueAtPlaces("ANY NOT =0", "ab", FAILS, FAILS, 0);
        dueAtPlaces("NOTHING NOT =0", "a", FAILS, FAILS);
        dueAtPlaces("a NOT NOT =0", "ab", 0, FAILS, FAILS);
        // a^n b^n c^n: the balance of a and b is seen ahead, that of b and c is then matched.
        String same = "a @1 MAYBE THEN b THEN =1 b @2 MAYBE THEN c THEN =2"
            + " @1 c THEN AHEAD a STAR THEN @2 THEN ANY NOT THEN =0";
        due("aabbcc", Checks.object(same, "aabbcc").whole(0), 1);
        due("aabbc", Checks.object(same, "aabbc").whole(0), 0);
        due("aabcc", Checks.object(same, "aabcc").match(0, 0), FAILS);
        due("aaabbbccc", Checks.object(same, "aaabbbccc").match(0, 0), 9);
    }

    private static void matchRefusesWrongArguments() {
        PegTables x = Checks.object("ANY =0 ANY =1 ANY =2 ANY =3", "ab");
        for (int rule : NO_RULES) {
            due("match(" + rule + ", 0)", x.match(rule, 0), WRONG);
        }
        for (int place : new int[] {-1, -2, 3, 4, 20, 21, MIN, MAX}) {
            due("match(0, " + place + ")", x.match(0, place), WRONG);
        }
        due("both are wrong", x.match(4, 3), WRONG);
        due("the last place", x.match(3, 2), FAILS);
    }

    // Promise 7

    private static void matchesCountsNumbers() {
        PegTables x = Checks.object("a =0 NOTHING =1 a @2 ELSE =2", "abaab");
        due("letters", x.matches(0), 3);
        due("zero is a number, the end a place", x.matches(1), 6);
        due("stuck is no number", x.matches(2), 3);
        due("no expression", x.matches(3), 0);
        for (int rule : NO_RULES) {
            due("matches(" + rule + ")", x.matches(rule), WRONG);
        }
        x.erase();
        due("the one place of an empty text", x.matches(1), 1);
        due("the one place of an empty text", x.matches(0), 0);
    }

    // Promise 8

    private static void findSeeksFromAPlace() {
        PegTables x = Checks.object("b =0 ANY NOT =1 b @2 ELSE =2", "abaab");
        due("from 0", x.find(0, 0), 1);
        due("from the very place", x.find(0, 1), 1);
        due("from behind it", x.find(0, 2), 4);
        due("from the end", x.find(0, 5), -1);
        due("from before the text", x.find(0, -1), 1);
        due("from far before", x.find(0, MIN), 1);
        due("from behind the text", x.find(0, 6), -1);
        due("from far behind", x.find(0, MAX), -1);
        due("the end is a place", x.find(1, 0), 5);
        due("the end itself", x.find(1, 5), 5);
        due("behind the end", x.find(1, 6), -1);
        due("stuck places are passed over", x.find(2, 0), 1);
        due("stuck places are passed over", x.find(2, 2), 4);
        due("no expression", x.find(3, 0), -1);
        for (int rule : NO_RULES) {
            due("find(" + rule + ", 0)", x.find(rule, 0), WRONG);
            due("find(" + rule + ", 9)", x.find(rule, 9), WRONG);
        }
    }

    // Promise 9

    private static void wholeAsksForTheWholeText() {
        PegTables x = Checks.object("a STAR =0 NOTHING =1 @2 =2", "aaa");
        due("the whole", x.whole(0), 1);
        due("less than the whole", x.whole(1), 0);
        due("stuck", x.whole(2), 0);
        due("no expression", x.whole(3), 0);
        x.type(1);
        due("one letter too many", x.whole(0), 0);
        x.erase();
        due("empty", x.whole(0), 1);
        due("empty", x.whole(1), 1);
        due("empty and stuck", x.whole(2), 0);
        due("empty and fails", x.whole(3), 0);
        for (int rule : NO_RULES) {
            due("whole(" + rule + ")", x.whole(rule), WRONG);
        }
    }

    // Promise 10

    private static void stuckCountsPlacesWithoutOutcome() {
        PegTables x = Checks.object("@0 =0 a @1 ELSE =1 a =2", "abaab");
        due("all places", x.stuck(0), 6);
        due("all but those of a", x.stuck(1), 3);
        due("failing is an outcome", x.stuck(2), 0);
        due("no expression is no stuck one", x.stuck(3), 0);
        for (int rule : NO_RULES) {
            due("stuck(" + rule + ")", x.stuck(rule), WRONG);
        }
        x.erase();
        due("the one place", x.stuck(0), 1);
    }

    // Promise 11

    private static void callOfRulesWithoutExpression() {
        dueAtPlaces("@3 =0", "ab", FAILS, FAILS, FAILS);
        dueAtPlaces("@3 NOT =0", "ab", 0, 0, 0);
        dueAtPlaces("@3 a ELSE =0", "ab", 1, FAILS, FAILS);
        dueAtPlaces("@3 STAR =0", "ab", 0, 0, 0);
        dueAtPlaces("@3 MAYBE =0", "ab", 0, 0, 0);
        dueAtPlaces("@3 @0 THEN =0", "a", FAILS, FAILS);
    }

    private static void outcomesFollowInFinitelyManySteps() {
        dueAtPlaces("@0 =0", "a", STUCK, STUCK);
        dueAtPlaces("@1 =0 @2 =1 @3 =2 @0 =3", "a", STUCK, STUCK);
        dueAtPlaces("@1 =0 @1 =1", "a", STUCK, STUCK);
        dueAtPlaces("@0 a THEN b ELSE =0", "ba", STUCK, STUCK, STUCK);
        dueAtPlaces("b @0 a THEN ELSE =0", "ba", 1, STUCK, STUCK);
        dueAtPlaces("@0 NOT =0", "a", STUCK, STUCK);
        dueAtPlaces("@0 AHEAD =0", "a", STUCK, STUCK);
        dueAtPlaces("@0 MAYBE =0", "a", STUCK, STUCK);
        dueAtPlaces("@0 STAR =0", "a", STUCK, STUCK);
        dueAtPlaces("a @1 THEN =0 @1 =1", "ab", STUCK, FAILS, FAILS);
        dueAtPlaces("@1 a THEN =0 @1 =1", "b", STUCK, STUCK);
        dueAtPlaces("@1 NOTHING ELSE =0 @1 =1", "b", STUCK, STUCK);
        dueAtPlaces("NOTHING @1 ELSE =0 @1 =1", "b", 0, 0);
        dueAtPlaces("a MAYBE @0 THEN =0", "ab", STUCK, STUCK, STUCK);
        dueAtPlaces("a @0 THEN a ELSE =0", "aab", 2, 1, FAILS, FAILS);
        dueAtPlaces("a STAR @0 b THEN ELSE =0", "ab", 1, 0, 0);
        // The star goes on over the a's and then meets a place where its part has no outcome.
        dueAtPlaces("a @1 ELSE STAR =0 b @1 THEN @2 ELSE =1 c @2 ELSE =2", "aaca",
            STUCK, STUCK, STUCK, STUCK, STUCK);
        dueAtPlaces("a b @1 THEN ELSE STAR =0 @1 =1", "aacab", 2, 1, 0, STUCK, STUCK, 0);
        // Each rule is defined before the one that it calls.
        dueAtPlaces("@1 =0 @2 =1 @3 =2 a =3", "ab", 1, FAILS, FAILS);
        dueAtPlaces("@1 a ELSE =0 @2 b ELSE =1 @3 c ELSE =2 ANY NOT =3", "abc", 1, 1, 1, 0);
    }

    private static void choicesAreTriedInOrder() {
        dueAtPlaces("a a b THEN ELSE c THEN =0", "abc", FAILS, FAILS, FAILS, FAILS);
        dueAtPlaces("a b THEN a ELSE c THEN =0", "abc", 3, FAILS, FAILS, FAILS);
        dueAtPlaces("a @0 THEN a THEN a ELSE =0", "aaaaa", 3, 1, 3, 1, 1, FAILS);
    }

    private static void callsSeeTheRuleAsItIsNow() {
        PegTables x = Checks.object("@1 =0 a =1", "ab");
        due("first", x.match(0, 0), 1);
        Checks.tokens(x, "b =1");
        due("then", x.match(0, 0), FAILS);
        due("then", x.match(0, 1), 1);
        Checks.tokens(x, "@0 =1");
        due("at last", x.match(0, 1), STUCK);
        x.clear();
        Checks.tokens(x, "@1 =0");
        due("after clear", x.match(0, 1), FAILS);
    }

    private static void queriesChangeNothing() {
        PegTables x = Checks.object("a @0 ELSE =0 a b", "ab");
        for (int round = 0; round < 3; round++) {
            due("match", x.match(0, 1), STUCK);
            due("matches", x.matches(0), 1);
            due("find", x.find(0, 1), -1);
            due("whole", x.whole(0), 0);
            due("stuck", x.stuck(0), 2);
        }
        due("the stack stays", x.token(PegTables.THEN, 0), 1);
        due("what is on it stays", x.token(PegTables.DEFINE, 1), 0);
        due("its outcome", x.match(1, 0), 2);
        due("the text stays", x.type(0), 3);
        due("the new letter is seen", x.match(0, 2), 1);
    }

    private static void objectsAreApart() {
        PegTables x = Checks.object("a =0", "a");
        PegTables y = Checks.object("b =0", "ab");
        due("x", x.match(0, 0), 1);
        due("y", y.match(0, 0), FAILS);
        y.clear();
        y.erase();
        due("x after y was emptied", x.match(0, 0), 1);
    }
}
