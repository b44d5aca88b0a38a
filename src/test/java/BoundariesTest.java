/**
 * Each sentence of the document that names a boundary case, told above the test that is its own.
 * F is an expression that fails everywhere, S one that has no outcome anywhere, T one that has
 * the outcome 1 before the end and none at the end.
 */
final class BoundariesTest {
    private static final int FAILS = PegTables.FAILS;
    private static final int STUCK = PegTables.STUCK;
    private static final int WRONG = -3;
    private static final int MIN = Integer.MIN_VALUE;
    private static final int MAX = Integer.MAX_VALUE;
    private static final int MOST_CALLS = 512;
    private static final int MOST_LETTERS = 20;
    private static final int MOST_TOKENS = 40;
    private static final String TWENTY = "abcdabcdabcdabcdabcd";

    private static final int[] NO_RULES = {-1, 4, -4, 8, 256, 0x40000000, -0x40000000, MIN, MIN + 1, MAX, MAX - 3};
    private static final int[] MASKED = {0, 1, 2, 3, 4, 5, 6, 7, -1, -2, -3, -4, -5, 255, 256, 65537, -65534,
        0x40000003, MIN, MIN + 1, MIN + 2, MIN + 3, MAX, MAX - 1, MAX - 2, MAX - 3};

    private static final Checks CHECKS = new Checks();

    private BoundariesTest() {
    }

    public static void main(String[] args) {
        fiveHundredTwelveQuestions();
        fiveHundredTwelveChanges();
        callsAfterTheLastStillEnd();
        textHasAtMostTwentyLetters();
        placesGoFromZeroToTheLength();
        eachRuleHasAnExpressionOrNone();
        fortyTokensOnTheStack();
        fortyTokensOfEachKindAtTheEnd();
        letterIsMasked();
        calledRuleIsMasked();
        definedRuleIsMasked();
        otherArgumentsAreFree();
        secondFromTheTopIsTheFirst();
        defineReplacesAndLeavesTheRest();
        tableOfLetterAnyAndNothing();
        tableOfCall();
        tableOfThen();
        tableOfThenMovesOn();
        tableOfElse();
        tableOfStar();
        tableOfMaybeAheadAndNot();
        outcomesTakeManySteps();
        outcomesThatNeverFollow();
        newObjectIsEmpty();
        tokenRefusesCodes();
        tokenRefusesWithTooFew();
        tokenRefusesWhenFortyAreTaken();
        clearRemovesAllButTheText();
        clearOfAnEmptyGrammar();
        typeMasksTheLetter();
        typeRefusesTheTwentyFirst();
        eraseOfFullAndEmptyTexts();
        erasedLettersAreGone();
        matchAnswersEachKind();
        matchRefuses();
        matchesFromNoneToAll();
        findFromEveryPlace();
        wholeAtEveryLength();
        stuckFromNoneToAll();
        rulesWithoutExpressionFail();
        rulesWithoutOutcomeGiveNone();
        CHECKS.end();
    }

    private static void due(String what, long got, long want) {
        CHECKS.due(what, got, want);
    }

    /** F, S and T in the short words of Checks; S and T use rule 3. */
    private static String words(String expression) {
        return expression.replaceAll("\\bF\\b", "NOTHING NOT").replaceAll("\\bT\\b", "ANY @3 ELSE")
            .replaceAll("\\bS\\b", "@3");
    }

    /** What rule 0 answers at the place, when it is the expression and rule 3 calls itself. */
    private static void dueAt(String expression, String text, int place, int want) {
        PegTables x = Checks.object(expression + " =0 @3 =3", text);
        due("[" + expression + "] on '" + text + "' at " + place, x.match(0, place), want);
    }

    private static int outcome(String word) {
        return word.equals("F") ? FAILS : word.equals("S") ? STUCK : Integer.parseInt(word);
    }

    /** For each part x and each part y, in rows and columns, the outcome of "x y code" at the place. */
    private static void dueTable(String code, String text, int place, String... rows) {
        String[] parts = {"NOTHING", "ANY", "ANY ANY THEN", words("F"), words("S")};
        for (int i = 0; i < parts.length; i++) {
            String[] wants = rows[i].trim().split(" +");
            for (int j = 0; j < parts.length; j++) {
                dueAt(parts[i] + " " + parts[j] + " " + code, text, place, outcome(wants[j]));
            }
        }
    }

    /** The outcomes of the expression at places 0, 1, ... of the text. */
    private static void dueRow(String expression, String text, String row) {
        String[] wants = row.trim().split(" +");
        due("outcomes told for '" + text + "'", wants.length, text.length() + 1);
        for (int place = 0; place < wants.length; place++) {
            dueAt(words(expression), text, place, outcome(wants[place]));
        }
    }

    // "An object is used for at most 512 calls after it has been made".

    private static void fiveHundredTwelveQuestions() {
        PegTables x = Checks.object("a STAR =0 @1 =1 NOTHING =2", "aaaa");
        int calls = 7 + 4;
        for (; calls < MOST_CALLS; calls++) {
            switch (calls % 5) {
                case 0: due("call " + calls + ", match", x.match(0, calls % 4), 4 - calls % 4); break;
                case 1: due("call " + calls + ", matches", x.matches(2), 5); break;
                case 2: due("call " + calls + ", find", x.find(2, 3), 3); break;
                case 3: due("call " + calls + ", whole", x.whole(0), 1); break;
                default: due("call " + calls + ", stuck", x.stuck(1), 5); break;
            }
        }
        due("calls made", calls, MOST_CALLS);
    }

    private static void fiveHundredTwelveChanges() {
        PegTables x = new PegTables();
        int calls = 0;
        while (calls + 8 <= MOST_CALLS) {
            int letter = calls / 8 % 4;
            x.clear();
            x.erase();
            due("call " + calls + ", LETTER", x.token(PegTables.LETTER, letter), 1);
            due("call " + calls + ", STAR", x.token(PegTables.STAR, 0), 1);
            due("call " + calls + ", DEFINE", x.token(PegTables.DEFINE, letter), 0);
            due("call " + calls + ", type", x.type(letter), 1);
            due("call " + calls + ", whole", x.whole(letter), 1);
            due("call " + calls + ", match of another rule", x.match((letter + 1) & 3, 1), FAILS);
            calls += 8;
        }
        due("calls made", calls, MOST_CALLS);

        // Full stores, and calls that are refused, over and over.
        PegTables y = new PegTables();
        for (int call = 1; call <= MOST_CALLS / 2; call++) {
            due("type " + call, y.type(call), call <= MOST_LETTERS ? call : -1);
            due("token " + call, y.token(PegTables.ANY, call), call <= MOST_TOKENS ? call : -1);
        }
    }

    /** What is answered then is free, but no call may throw or fail to end. */
    private static void callsAfterTheLastStillEnd() {
        PegTables x = new PegTables();
        for (int call = 0; call < 8 * MOST_CALLS; call++) {
            int number = MASKED[call % MASKED.length];
            x.token(call % 13 - 1, number);
            x.type(number);
            x.match(number, call % 25 - 2);
            x.match(call & 3, number);
            x.matches(call % 6 - 1);
            x.find(call % 6 - 1, number);
            x.whole(call % 6 - 1);
            x.stuck(call % 6 - 1);
            if (call % 97 == 0) {
                x.clear();
            }
            if (call % 101 == 0) {
                x.erase();
            }
        }
    }

    // "THE TEXT is a row of at most 20 letters, empty at the start; its PLACES are 0 to its length".

    private static void textHasAtMostTwentyLetters() {
        PegTables x = Checks.object("ANY STAR =0", "");
        due("empty at the start", x.match(0, 0), 0);
        for (int letters = 1; letters <= MOST_LETTERS; letters++) {
            due("letter " + letters, x.type(letters), letters);
            due("a row of " + letters, x.match(0, 0), letters);
        }
        due("one more", x.type(0), -1);
        due("still a row of 20", x.match(0, 0), MOST_LETTERS);
        due("its last letter", x.match(0, MOST_LETTERS - 1), 1);
        due("its end", x.match(0, MOST_LETTERS), 0);
    }

    private static void placesGoFromZeroToTheLength() {
        PegTables x = Checks.object("NOTHING =0 @1 =1", "");
        for (int length = 0; length <= MOST_LETTERS; length++) {
            for (int place = 0; place <= length; place++) {
                due("place " + place + " of " + length, x.match(0, place), 0);
            }
            due("place -1 of " + length, x.match(0, -1), WRONG);
            due("place after " + length, x.match(0, length + 1), WRONG);
            due("places of " + length, x.matches(0), length + 1);
            due("stuck places of " + length, x.stuck(1), length + 1);
            due("the last place of " + length, x.find(0, length), length);
            due("no place after " + length, x.find(0, length + 1), -1);
            x.type(length);
        }
    }

    // "each of which has an EXPRESSION or none (none at the start)".

    private static void eachRuleHasAnExpressionOrNone() {
        for (int having = 0; having < 16; having++) {
            PegTables x = Checks.object("", "ab");
            for (int rule = 0; rule < 4; rule++) {
                due("none yet, rule " + rule, x.match(rule, 0), FAILS);
                if ((having >> rule & 1) == 1) {
                    x.token(PegTables.ANY, 0);
                    x.token(PegTables.DEFINE, rule);
                }
            }
            for (int rule = 0; rule < 4; rule++) {
                boolean has = (having >> rule & 1) == 1;
                due("rule " + rule + " of " + having, x.match(rule, 0), has ? 1 : FAILS);
                due("rule " + rule + " of " + having, x.matches(rule), has ? 2 : 0);
                due("rule " + rule + " of " + having, x.stuck(rule), 0);
            }
        }
    }

    // "EXPRESSIONS are built by tokens on a stack (empty at the start), at most 40 in all".

    private static void fortyTokensOnTheStack() {
        PegTables x = new PegTables();
        for (int height = 1; height <= MOST_TOKENS; height++) {
            due("token " + height, x.token(height & 3, height), height);
        }
        due("one more", x.token(PegTables.ANY, 0), -1);

        // The deepest grammar there is: 39 tokens one in another, then DEFINE.
        PegTables y = Checks.object("a", "a");
        for (int i = 0; i < MOST_TOKENS - 2; i++) {
            due("NOT " + i, y.token(PegTables.NOT, 0), 1);
        }
        due("DEFINE as the last", y.token(PegTables.DEFINE, 0), 0);
        due("an even number of NOT", y.match(0, 0), 0);
        due("an even number of NOT", y.match(0, 1), FAILS);
    }

    private static void fortyTokensOfEachKindAtTheEnd() {
        int[] heights = {40, 40, 40, 40, 38, 38, 39, 39, 39, 39, 38};
        for (int code = 0; code <= 10; code++) {
            PegTables x = Checks.object("", "a");
            for (int i = 1; i < MOST_TOKENS; i++) {
                due("token " + i, x.token(PegTables.ANY, 0), i);
            }
            due("code " + code + " as the fortieth", x.token(code, 0), heights[code]);
            due("code " + code + " as the forty-first", x.token(code, 0), -1);
            due("rule 0 after code " + code, x.match(0, 0), code == PegTables.DEFINE ? 1 : FAILS);
        }
    }

    // "l & 3", "r & 3".

    private static void letterIsMasked() {
        for (int arg : MASKED) {
            PegTables x = Checks.object("", "abcd");
            due("LETTER " + arg, x.token(PegTables.LETTER, arg), 1);
            x.token(PegTables.DEFINE, 0);
            for (int place = 0; place < 4; place++) {
                due("LETTER " + arg + " at " + place, x.match(0, place), place == (arg & 3) ? 1 : FAILS);
            }
        }
    }

    private static void calledRuleIsMasked() {
        for (int arg : MASKED) {
            for (int own = 0; own < 4; own++) {
                PegTables x = Checks.object("a =0 b =1 c =2 d =3", "abcd");
                due("CALL " + arg, x.token(PegTables.CALL, arg), 1);
                x.token(PegTables.DEFINE, own);
                boolean itself = own == (arg & 3);
                due("CALL " + arg + " as rule " + own, x.find(own, 0), itself ? -1 : arg & 3);
                due("CALL " + arg + " as rule " + own, x.stuck(own), itself ? 5 : 0);
            }
        }
    }

    private static void definedRuleIsMasked() {
        for (int arg : MASKED) {
            PegTables x = Checks.object("ANY", "abcd");
            due("DEFINE " + arg, x.token(PegTables.DEFINE, arg), 0);
            for (int rule = 0; rule < 4; rule++) {
                due("DEFINE " + arg + ", rule " + rule, x.matches(rule), rule == (arg & 3) ? 4 : 0);
            }
        }
    }

    private static void otherArgumentsAreFree() {
        for (int arg : MASKED) {
            PegTables x = Checks.object("", "ab");
            due("ANY " + arg, x.token(PegTables.ANY, arg), 1);
            due("NOTHING " + arg, x.token(PegTables.NOTHING, arg), 2);
            due("THEN " + arg, x.token(PegTables.THEN, arg), 1);
            due("NOT " + arg, x.token(PegTables.NOT, arg), 1);
            due("AHEAD " + arg, x.token(PegTables.AHEAD, arg), 1);
            due("NOTHING " + arg, x.token(PegTables.NOTHING, arg), 2);
            due("ELSE " + arg, x.token(PegTables.ELSE, arg), 1);
            due("MAYBE " + arg, x.token(PegTables.MAYBE, arg), 1);
            due("STAR " + arg, x.token(PegTables.STAR, arg), 1);
            x.token(PegTables.DEFINE, 0);
            due("all of them with " + arg, x.matches(0), 3);
            due("all of them with " + arg, x.match(0, 0), 0);
        }
    }

    // "THEN and ELSE take two off (the second from the top is the first)".

    private static void secondFromTheTopIsTheFirst() {
        PegTables x = Checks.object("c a b THEN", "ab");
        due("one is left below", x.token(PegTables.DEFINE, 0), 1);
        due("a then b", x.match(0, 0), 2);
        due("below it is c", x.token(PegTables.DEFINE, 1), 0);
        due("below it is c", x.matches(1), 0);
        x.type(2);
        due("below it is c", x.match(1, 2), 1);
        x.erase();
        Checks.type(x, "ba");
        due("not b then a", x.match(0, 0), FAILS);

        PegTables y = Checks.object("d ANY NOTHING ELSE", "ab");
        due("one is left below", y.token(PegTables.DEFINE, 0), 1);
        due("any, else nothing", y.match(0, 0), 1);
        due("any, else nothing", y.match(0, 2), 0);
        due("below it is d", y.token(PegTables.DEFINE, 1), 0);
        due("below it is d", y.matches(1), 0);
        due("nothing, else any", Checks.object("NOTHING ANY ELSE =0", "ab").match(0, 0), 0);

        due("exactly two", new PegTables().token(PegTables.THEN, 0), -1);
        due("a (b c)", Checks.object("a b c THEN THEN =0", "abc").match(0, 0), 3);
        due("(a b) c", Checks.object("a b THEN c THEN =0", "abc").match(0, 0), 3);
        due("a, else (b then c)", Checks.object("a b c THEN ELSE =0", "bc").match(0, 0), 2);
        due("(a else b) then c", Checks.object("a b ELSE c THEN =0", "ac").match(0, 0), 2);
    }

    // "DEFINE r takes one off and makes it the expression of the rule r & 3 (in place of what it had)".

    private static void defineReplacesAndLeavesTheRest() {
        for (int rule = 0; rule < 4; rule++) {
            PegTables x = Checks.object("a =0 a =1 a =2 a =3 c b", "ab");
            due("one is taken off", x.token(PegTables.DEFINE, rule), 1);
            for (int other = 0; other < 4; other++) {
                due("rule " + other + " after DEFINE " + rule, x.find(other, 0), other == rule ? 1 : 0);
            }
            due("the last is taken off", x.token(PegTables.DEFINE, rule), 0);
            due("replaced again, by one that was below", x.matches(rule), 0);
            due("none is left", x.token(PegTables.DEFINE, rule), -1);
        }
        PegTables y = Checks.object("a =0 @0 =1 @1 =2", "ab");
        Checks.tokens(y, "b =0");
        due("callers see what is there now", y.find(2, 0), 1);
        Checks.tokens(y, "@2 =0");
        due("a number gives way to no outcome", y.stuck(2), 3);
        Checks.tokens(y, "ANY =0");
        due("no outcome gives way to a number", y.matches(2), 2);
    }

    // The table of outcomes, line by line, with parts that are 0, 1, 2, that fail and that have none.

    private static void tableOfLetterAnyAndNothing() {
        dueRow("a", "", "F");
        dueRow("a", "ab", "1 F F");
        dueRow("b", "ab", "F 1 F");
        dueRow("d", "dd", "1 1 F");
        dueRow("ANY", "", "F");
        dueRow("ANY", "abcd", "1 1 1 1 F");
        dueRow("NOTHING", "", "0");
        dueRow("NOTHING", "ab", "0 0 0");
        // The letter that stood at the end before the text was made shorter is not seen there.
        PegTables x = Checks.object("a =0", "aaa");
        x.erase();
        due("an erased letter at the end", x.match(0, 0), FAILS);
        PegTables full = Checks.object("d =0", TWENTY);
        due("the last letter of twenty", full.match(0, 19), 1);
        due("the end of twenty", full.match(0, 20), FAILS);
    }

    private static void tableOfCall() {
        dueRow("@1", "ab", "F F F");
        dueRow("@0", "ab", "S S S");
        dueRow("S", "ab", "S S S");
        String[] parts = {"NOTHING", "ANY", "ANY ANY THEN", words("F"), words("S"), words("T")};
        String[] rows = {"0 0 0", "1 1 F", "2 F F", "F F F", "S S S", "1 1 S"};
        for (int i = 0; i < parts.length; i++) {
            String[] wants = rows[i].split(" ");
            for (int place = 0; place <= 2; place++) {
                PegTables x = Checks.object(parts[i] + " =1 @3 =3 @1 =0", "ab");
                due("CALL of [" + parts[i] + "] at " + place, x.match(0, place), outcome(wants[place]));
            }
        }
    }

    private static void tableOfThen() {
        dueTable("THEN", "abcd", 0,
            "0 1 2 F S",
            "1 2 3 F S",
            "2 3 4 F S",
            "F F F F F",
            "S S S S S");
        dueTable("THEN", "abcd", 3,
            "0 1 F F S",
            "1 F F F S",
            "F F F F F",
            "F F F F F",
            "S S S S S");
        dueTable("THEN", "abcd", 4,
            "0 F F F S",
            "F F F F F",
            "F F F F F",
            "F F F F F",
            "S S S S S");
    }

    /** The second part is asked at p + a and nowhere else. */
    private static void tableOfThenMovesOn() {
        dueRow("a b THEN", "abab", "2 F 2 F F");
        dueRow("ANY T THEN", "ab", "2 S F");
        dueRow("T ANY THEN", "ab", "2 F S");
        dueRow("T T THEN", "ab", "2 S S");
        dueRow("NOTHING T THEN", "ab", "1 1 S");
        dueRow("ANY ANY THEN T THEN", "abc", "3 S F F");
        dueRow("ANY STAR NOTHING THEN", "abc", "3 2 1 0");
        dueRow("ANY STAR ANY THEN", "abc", "F F F F");
        dueRow("ANY STAR S THEN", "abc", "S S S S");
        PegTables x = Checks.object("ANY STAR ANY NOT THEN =0", TWENTY);
        due("over twenty letters", x.match(0, 0), 20);
        due("at the end of twenty", x.match(0, 20), 0);
    }

    private static void tableOfElse() {
        dueTable("ELSE", "abcd", 0,
            "0 0 0 0 0",
            "1 1 1 1 1",
            "2 2 2 2 2",
            "0 1 2 F S",
            "S S S S S");
        dueTable("ELSE", "abcd", 3,
            "0 0 0 0 0",
            "1 1 1 1 1",
            "0 1 F F S",
            "0 1 F F S",
            "S S S S S");
        dueTable("ELSE", "abcd", 4,
            "0 0 0 0 0",
            "0 F F F S",
            "0 F F F S",
            "0 F F F S",
            "S S S S S");
        dueRow("T NOTHING ELSE", "ab", "1 1 S");
        dueRow("F T ELSE", "ab", "1 1 S");
    }

    private static void tableOfStar() {
        dueRow("NOTHING STAR", "ab", "0 0 0");
        dueRow("NOTHING STAR", "", "0");
        dueRow("ANY STAR", "", "0");
        dueRow("ANY STAR", "abc", "3 2 1 0");
        dueRow("ANY ANY THEN STAR", "abcde", "4 4 2 2 0 0");
        dueRow("F STAR", "ab", "0 0 0");
        dueRow("S STAR", "ab", "S S S");
        dueRow("T STAR", "ab", "S S S");
        dueRow("a MAYBE STAR", "aaba", "2 1 0 1 0");
        dueRow("ANY STAR STAR", "ab", "2 1 0");
        // Stuck only if the star comes to the place where its part is.
        dueRow("a b S THEN ELSE STAR", "acab", "1 0 S S 0");
        dueRow("b AHEAD S THEN a ELSE STAR", "aaba", "S S S 1 0");
        // The part's outcome is 0 at the place that the star comes to.
        dueRow("a b AHEAD ELSE STAR", "aab", "2 1 0 0");
        PegTables x = Checks.object("ANY STAR =0 ANY ANY THEN ANY THEN STAR =1", TWENTY);
        for (int place = 0; place <= 20; place++) {
            due("STAR ANY at " + place + " of twenty", x.match(0, place), 20 - place);
            due("STAR of three at " + place + " of twenty", x.match(1, place), (20 - place) / 3 * 3);
        }
    }

    private static void tableOfMaybeAheadAndNot() {
        dueRow("NOTHING MAYBE", "ab", "0 0 0");
        dueRow("ANY MAYBE", "ab", "1 1 0");
        dueRow("ANY ANY THEN MAYBE", "ab", "2 0 0");
        dueRow("F MAYBE", "ab", "0 0 0");
        dueRow("S MAYBE", "ab", "S S S");
        dueRow("T MAYBE", "ab", "1 1 S");
        dueRow("NOTHING AHEAD", "ab", "0 0 0");
        dueRow("ANY AHEAD", "ab", "0 0 F");
        dueRow("ANY ANY THEN AHEAD", "ab", "0 F F");
        dueRow("F AHEAD", "ab", "F F F");
        dueRow("S AHEAD", "ab", "S S S");
        dueRow("T AHEAD", "ab", "0 0 S");
        dueRow("NOTHING NOT", "ab", "F F F");
        dueRow("ANY NOT", "ab", "F F 0");
        dueRow("ANY ANY THEN NOT", "ab", "F 0 0");
        dueRow("F NOT", "ab", "0 0 0");
        dueRow("S NOT", "ab", "S S S");
        dueRow("T NOT", "ab", "F F S");
    }

    // "an expression has at a place only such an outcome as follows from them in finitely many steps".

    private static void outcomesTakeManySteps() {
        // As many steps as forty tokens can ask for at one place, against the order of making.
        PegTables x = new PegTables();
        Checks.tokens(x, "@1 NOT NOT NOT NOT NOT NOT NOT NOT =0");
        Checks.tokens(x, "@2 NOT NOT NOT NOT NOT NOT NOT NOT =1");
        Checks.tokens(x, "@3 NOT NOT NOT NOT NOT NOT NOT NOT =2");
        due("forty tokens", Checks.tokens(x, "a NOT NOT NOT NOT NOT NOT NOT NOT =3"), 0);
        due("forty tokens", x.token(PegTables.ANY, 0), -1);
        Checks.type(x, "ab");
        due("through all rules", x.match(0, 0), 0);
        due("through all rules", x.match(0, 1), FAILS);
        due("through all rules", x.match(0, 2), FAILS);
        // The rules call each other once for every letter of the longest text.
        PegTables y = Checks.object("ANY @1 THEN ANY NOT ELSE =0 @2 =1 @3 =2 @0 =3", TWENTY);
        for (int place = 0; place <= 20; place++) {
            for (int rule = 0; rule < 4; rule++) {
                due("rule " + rule + " at " + place, y.match(rule, place), 20 - place);
            }
        }
        // One expression is come to by two ways at the same place, and that is no circle.
        due("twice at one place", Checks.object("@1 AHEAD @1 THEN =0 a =1", "a").match(0, 0), 1);
        due("twice at one place", Checks.object("@1 b THEN @1 ELSE =0 a =1", "a").match(0, 0), 1);
    }

    private static void outcomesThatNeverFollow() {
        // A guess would bear itself out here, as 0, as 1 or as failing, but none follows.
        for (String grammar : new String[] {"@0 =0", "@0 MAYBE =0", "@0 AHEAD =0", "@0 STAR =0", "@0 @0 THEN =0",
            "@0 @0 ELSE =0", "@0 NOTHING THEN =0", "NOTHING @0 THEN =0", "@1 @0 ELSE =0", "@1 NOT @0 THEN =0"}) {
            PegTables x = Checks.object(grammar, "ab");
            due("[" + grammar + "]", x.stuck(0), 3);
        }
        // A guess would deny itself here.
        due("NOT itself", Checks.object("@0 NOT =0", "ab").stuck(0), 3);
        due("NOT NOT itself", Checks.object("@0 NOT NOT =0", "ab").stuck(0), 3);
        due("from the left", Checks.object("@0 a THEN a ELSE =0", "aa").stuck(0), 3);
        due("from the right", Checks.object("a @0 THEN a ELSE =0", "aa").stuck(0), 0);
        due("what is not asked for may be stuck", Checks.object("a @0 ELSE =0", "aba").stuck(0), 2);
        due("what is not asked for may be stuck", Checks.object("a @0 ELSE =0", "aba").match(0, 2), 1);
        due("what is not asked for may be stuck", Checks.object("a NOT @0 THEN =0", "aba").match(0, 0), FAILS);
        due("a circle of two places", Checks.object("ANY @1 THEN =0 ANY NOT @1 THEN =1", "ab").match(0, 0), FAILS);
        due("a circle of two places", Checks.object("ANY @1 THEN =0 ANY NOT @1 THEN =1", "ab").match(0, 1), STUCK);
    }

    // Promise 1: "No rule has an expression; stack and text are empty."

    private static void newObjectIsEmpty() {
        for (int rule = 0; rule < 4; rule++) {
            PegTables x = new PegTables();
            due("no expression in rule " + rule, x.match(rule, 0), FAILS);
            due("no expression in rule " + rule, x.stuck(rule), 0);
            due("CALL of it fails", Checks.tokens(x, "@" + rule + " NOT =" + ((rule + 1) & 3)), 0);
            due("CALL of it fails", x.match((rule + 1) & 3, 0), 0);
        }
        for (int code = PegTables.THEN; code <= PegTables.DEFINE; code++) {
            due("the stack is empty for code " + code, new PegTables().token(code, 0), -1);
        }
        for (int code = PegTables.LETTER; code <= PegTables.CALL; code++) {
            due("the first on the stack, code " + code, new PegTables().token(code, 0), 1);
        }
        due("the text is empty", new PegTables().match(0, 1), WRONG);
        due("the text is empty", Checks.object("NOTHING =0", "").whole(0), 1);
        due("the text is empty", Checks.object("NOTHING =0", "").matches(0), 1);
        due("the first letter", new PegTables().type(3), 1);
    }

    // Promise 2: "-1, and changes nothing, if code is not from 0 to 10, the stack has too few
    // expressions, or 40 tokens have been taken."

    /** Two rules, two on the stack and two letters; dueUnchanged sees that all are as they were. */
    private static PegTables someState() {
        return Checks.object("a =0 @3 =3 b c", "bc");
    }

    private static void dueUnchanged(String after, PegTables x) {
        due("rule 0 " + after, x.matches(0), 0);
        due("rule 1 " + after, x.matches(1), 0);
        due("rule 2 " + after, x.matches(2), 0);
        due("rule 3 " + after, x.stuck(3), 3);
        due("the stack " + after, x.token(PegTables.THEN, 0), 1);
        due("the stack " + after, x.token(PegTables.DEFINE, 1), 0);
        due("what was on it " + after, x.whole(1), 1);
        int left = MOST_TOKENS - 8;
        for (int i = 1; i <= left; i++) {
            due("tokens left " + after, x.token(PegTables.NOTHING, 0), i);
        }
        due("no more " + after, x.token(PegTables.NOTHING, 0), -1);
        due("the text " + after, x.type(0), 3);
        due("rule 0 on a new letter " + after, x.find(0, 0), 2);
    }

    private static void tokenRefusesCodes() {
        dueUnchanged("without a refusal", someState());
        for (int code : new int[] {-1, -2, -3, -10, 11, 12, 15, 16, 26, 255, 256, 266, MIN, MIN + 10, MAX, MAX - 1}) {
            PegTables x = someState();
            for (int i = 0; i < 50; i++) {
                due("token(" + code + ", " + i + ")", x.token(code, i), -1);
            }
            dueUnchanged("after code " + code, x);
        }
        due("code 0 is taken", someState().token(0, 0), 3);
        due("code 10 is taken", someState().token(10, 0), 1);
    }

    private static void tokenRefusesWithTooFew() {
        int[] needs = {0, 0, 0, 0, 2, 2, 1, 1, 1, 1, 1};
        for (int code = 0; code <= 10; code++) {
            for (int height = 0; height <= 3; height++) {
                PegTables x = Checks.object("", "a");
                for (int i = 0; i < height; i++) {
                    x.token(PegTables.ANY, 0);
                }
                int then = code <= 3 ? height + 1 : code == 10 ? height - 1 : height - needs[code] + 1;
                int got = x.token(code, 2);
                due("code " + code + " on " + height, got, height < needs[code] ? -1 : then);
                int now = height < needs[code] ? height : then;
                due("the stack after code " + code + " on " + height, x.token(PegTables.ANY, 0), now + 1);
                due("rule 2 after code " + code + " on " + height, x.match(2, 0), code == 10 && height > 0 ? 1 : FAILS);
            }
        }
        // Refused tokens are not among the forty.
        PegTables y = new PegTables();
        for (int i = 0; i < 60; i++) {
            due("THEN on none", y.token(PegTables.THEN, 0), -1);
        }
        for (int i = 1; i <= MOST_TOKENS; i++) {
            due("token " + i, y.token(PegTables.CALL, 0), i);
        }
        // A rule that it would have been given to keeps what it had.
        PegTables z = Checks.object("a =0", "a");
        due("DEFINE on none", z.token(PegTables.DEFINE, 0), -1);
        due("the rule keeps what it had", z.match(0, 0), 1);
    }

    private static void tokenRefusesWhenFortyAreTaken() {
        PegTables x = Checks.object("a =0 @3 =3", "ab");
        for (int i = 5; i <= MOST_TOKENS; i++) {
            due("token " + i, x.token(PegTables.ANY, 0), i - 4);
        }
        for (int round = 0; round < 3; round++) {
            for (int code = -1; code <= 11; code++) {
                due("code " + code + " after forty", x.token(code, round), -1);
                due("rule 0 after code " + code, x.find(0, 0), 0);
                due("rule 0 after code " + code, x.matches(0), 1);
                due("rule 1 after code " + code, x.matches(1), 0);
                due("rule 2 after code " + code, x.matches(2), 0);
                due("rule 3 after code " + code, x.stuck(3), 3);
            }
        }
        due("the text", x.type(0), 3);
        x.clear();
        due("room again", x.token(PegTables.ANY, 0), 1);
    }

    // Promise 3: "Removes all tokens, the stack, and the expressions of all rules; the text stays."

    private static void clearRemovesAllButTheText() {
        PegTables x = Checks.object("a =0 @1 =1 ANY =2 NOTHING =3", TWENTY);
        for (int i = 9; i <= MOST_TOKENS; i++) {
            x.token(PegTables.ANY, 0);
        }
        x.clear();
        for (int rule = 0; rule < 4; rule++) {
            due("rule " + rule, x.matches(rule), 0);
            due("rule " + rule, x.stuck(rule), 0);
            due("rule " + rule, x.match(rule, 20), FAILS);
        }
        for (int code = PegTables.THEN; code <= PegTables.DEFINE; code++) {
            due("the stack is empty for code " + code, x.token(code, 0), -1);
        }
        due("the text stays full", x.type(0), -1);
        Checks.tokens(x, "a =0 b =1 c =2 d =3");
        for (int place = 0; place < 20; place++) {
            for (int rule = 0; rule < 4; rule++) {
                due("letter " + place + " stays", x.match(rule, place), rule == place % 4 ? 1 : FAILS);
            }
        }
        for (int i = 9; i <= MOST_TOKENS; i++) {
            due("all forty are there again", x.token(PegTables.ANY, 0), i - 8);
        }
        due("and no more", x.token(PegTables.ANY, 0), -1);
    }

    private static void clearOfAnEmptyGrammar() {
        PegTables x = new PegTables();
        x.clear();
        x.clear();
        due("no rule", x.match(0, 0), FAILS);
        due("no stack", x.token(PegTables.NOT, 0), -1);
        due("no text", x.match(0, 1), WRONG);
        due("a token", x.token(PegTables.LETTER, 2), 1);
        due("a letter", x.type(2), 1);
        due("a rule", x.token(PegTables.DEFINE, 0), 0);
        due("its outcome", x.match(0, 0), 1);
    }

    // Promise 4: "Adds the letter letter & 3 at the end of the text"; "-1, and changes nothing,
    // if there are 20."

    private static void typeMasksTheLetter() {
        for (int letter : MASKED) {
            PegTables x = Checks.object("a =0 b =1 c =2 d =3", "d");
            due("type(" + letter + ")", x.type(letter), 2);
            for (int rule = 0; rule < 4; rule++) {
                due("type(" + letter + ") against " + rule, x.match(rule, 1), rule == (letter & 3) ? 1 : FAILS);
            }
            due("what stood before it", x.match(3, 0), 1);
        }
    }

    private static void typeRefusesTheTwentyFirst() {
        for (int letter : MASKED) {
            PegTables x = Checks.object("a =0 b =1 c =2 d =3", TWENTY);
            for (int i = 0; i < 3; i++) {
                due("type(" + letter + ") on twenty", x.type(letter), -1);
            }
            for (int rule = 0; rule < 4; rule++) {
                due("letters " + rule, x.matches(rule), 5);
                due("the first letter " + rule, x.find(rule, 0), rule);
                due("the last letter " + rule, x.find(rule, 16), 16 + rule);
            }
            due("no place 21", x.match(0, 21), WRONG);
        }
        PegTables y = Checks.object("", TWENTY.substring(1));
        due("the twentieth", y.type(0), 20);
        due("the twenty-first", y.type(0), -1);
    }

    // Promise 5: "Makes the text empty."

    private static void eraseOfFullAndEmptyTexts() {
        for (int length = 0; length <= MOST_LETTERS; length++) {
            PegTables x = Checks.object("ANY STAR =0 @1 =1 b", TWENTY.substring(0, length));
            x.erase();
            due("places after " + length, x.matches(0), 1);
            due("stuck places after " + length, x.stuck(1), 1);
            due("nothing there after " + length, x.match(0, 0), 0);
            due("no place 1 after " + length, x.match(0, 1), WRONG);
            due("whole after " + length, x.whole(0), 1);
            due("the stack after " + length, x.token(PegTables.DEFINE, 2), 0);
            for (int i = 1; i <= MOST_LETTERS; i++) {
                due("room for " + i, x.type(1), i);
            }
            due("and no more", x.type(1), -1);
            due("what was on the stack", x.matches(2), 20);
        }
    }

    private static void erasedLettersAreGone() {
        PegTables x = Checks.object("a STAR =0 a =1 b =2", "aaaaa");
        x.erase();
        Checks.type(x, "ab");
        due("only what was typed since", x.match(0, 0), 1);
        due("only what was typed since", x.matches(1), 1);
        due("only what was typed since", x.matches(2), 1);
        due("the new end", x.match(1, 2), FAILS);
        due("behind the new end", x.match(1, 3), WRONG);
    }

    // Promise 6: "a number of letters, FAILS, or STUCK if it has none; -3 if rule is not from 0
    // to 3 or place is no place of the text."

    private static void matchAnswersEachKind() {
        PegTables x = Checks.object("ANY STAR =0 " + words("F") + " =1 @2 =2", TWENTY);
        for (int place = 0; place <= 20; place++) {
            due("a number at " + place, x.match(0, place), 20 - place);
            due("FAILS at " + place, x.match(1, place), -1);
            due("STUCK at " + place, x.match(2, place), -2);
            due("FAILS without expression at " + place, x.match(3, place), -1);
        }
    }

    private static void matchRefuses() {
        for (String text : new String[] {"", "a", TWENTY}) {
            PegTables x = Checks.object("ANY =0 NOTHING =1 @2 =2", text);
            for (int rule : NO_RULES) {
                for (int place : new int[] {-1, 0, text.length(), text.length() + 1, MIN, MAX}) {
                    due("match(" + rule + ", " + place + ")", x.match(rule, place), WRONG);
                }
            }
            for (int rule = 0; rule < 4; rule++) {
                for (int place : new int[] {MIN, MIN + 1, -256, -2, -1, text.length() + 1, text.length() + 2,
                    22, 40, 256, MAX - 1, MAX}) {
                    due("match(" + rule + ", " + place + ")", x.match(rule, place), WRONG);
                }
            }
            due("place 0", x.match(1, 0), 0);
            due("the last place", x.match(1, text.length()), 0);
        }
    }

    // Promise 7: "At how many places of the text the rule's outcome is a number; -3 if rule is
    // not from 0 to 3."

    private static void matchesFromNoneToAll() {
        for (int length = 0; length <= MOST_LETTERS; length++) {
            String text = "a".repeat(length);
            PegTables x = Checks.object("NOTHING =0 ANY =1 @2 =2 " + words("F") + " =3", text);
            due("0 is a number, on " + length, x.matches(0), length + 1);
            due("not at the end, on " + length, x.matches(1), length);
            due("stuck on " + length, x.matches(2), 0);
            due("fails on " + length, x.matches(3), 0);
            for (int rule : NO_RULES) {
                due("matches(" + rule + ") on " + length, x.matches(rule), WRONG);
            }
            due("at the end alone", Checks.object("ANY NOT =0", text).matches(0), 1);
            due("before the end alone", Checks.object(words("T") + " =0 @3 =3", text).matches(0), length);
        }
        due("no expression", new PegTables().matches(3), 0);
    }

    // Promise 8: "The least place at least from where the rule's outcome is a number; -1 if there
    // is none; -3 if rule is not from 0 to 3."

    private static void findFromEveryPlace() {
        PegTables x = Checks.object("d =0 NOTHING =1 @2 =2 ANY NOT =3", TWENTY);
        for (int from = -3; from <= 24; from++) {
            int seen = Integer.max(from, 0);
            due("find(0, " + from + ")", x.find(0, from), seen < 20 ? seen / 4 * 4 + 3 : -1);
            due("find(1, " + from + ")", x.find(1, from), seen <= 20 ? seen : -1);
            due("find(2, " + from + ")", x.find(2, from), -1);
            due("find(3, " + from + ")", x.find(3, from), seen <= 20 ? 20 : -1);
        }
        for (int from : new int[] {MIN, MIN + 1, -256}) {
            due("find(0, " + from + ")", x.find(0, from), 3);
            due("find(1, " + from + ")", x.find(1, from), 0);
        }
        for (int from : new int[] {21, 256, MAX - 1, MAX}) {
            due("find(1, " + from + ")", x.find(1, from), -1);
        }
        for (int rule : NO_RULES) {
            for (int from : new int[] {MIN, -1, 0, 3, 20, 21, MAX}) {
                due("find(" + rule + ", " + from + ")", x.find(rule, from), WRONG);
            }
        }
        due("the empty text", Checks.object("NOTHING =0", "").find(0, 0), 0);
        due("behind the empty text", Checks.object("NOTHING =0", "").find(0, 1), -1);
        due("no expression", new PegTables().find(0, 0), -1);
        due("past a stuck place", Checks.object("a @0 ELSE =0", "bba").find(0, 0), 2);
    }

    // Promise 9: "1 if the rule's outcome at place 0 is the length of the text, else 0; -3 if rule
    // is not from 0 to 3."

    private static void wholeAtEveryLength() {
        for (int length = 0; length <= MOST_LETTERS; length++) {
            PegTables x = Checks.object("ANY STAR =0 NOTHING =1 @2 =2", "a".repeat(length));
            due("all of " + length, x.whole(0), 1);
            due("nothing of " + length, x.whole(1), length == 0 ? 1 : 0);
            due("stuck on " + length, x.whole(2), 0);
            due("fails on " + length, x.whole(3), 0);
            Checks.tokens(x, "ANY STAR b MAYBE THEN =2 ANY NOT a STAR ELSE =3");
            due("all of " + length + " and perhaps a b", x.whole(2), 1);
            due("the end, else all of " + length, x.whole(3), 1);
            for (int rule : NO_RULES) {
                due("whole(" + rule + ") on " + length, x.whole(rule), WRONG);
            }
        }
        due("one letter less", Checks.object("a STAR =0", "aab").whole(0), 0);
        due("at another place than 0", Checks.object("b =0", "ab").whole(0), 0);
        due("the rest from place 1", Checks.object("a NOT ANY STAR THEN =0", "abb").whole(0), 0);
        due("looking ahead over all", Checks.object("ANY STAR AHEAD =0", "ab").whole(0), 0);
        // Not even where a length is -1 or -2 without its sign.
        due("fails on one", Checks.object("b =0", "a").whole(0), 0);
        due("stuck on two", Checks.object("@0 =0", "aa").whole(0), 0);
    }

    // Promise 10: "How many places there are where the rule has no outcome (STUCK); -3 if rule is
    // not from 0 to 3."

    private static void stuckFromNoneToAll() {
        for (int length = 0; length <= MOST_LETTERS; length++) {
            PegTables x = Checks.object("@0 =0 ANY @1 ELSE =1 ANY NOT @2 ELSE =2", "a".repeat(length));
            due("everywhere on " + length, x.stuck(0), length + 1);
            due("at the end of " + length, x.stuck(1), 1);
            due("before the end of " + length, x.stuck(2), length);
            due("no expression on " + length, x.stuck(3), 0);
            Checks.tokens(x, words("F") + " =3");
            due("failing on " + length, x.stuck(3), 0);
            Checks.tokens(x, "NOTHING =3");
            due("0 on " + length, x.stuck(3), 0);
            for (int rule : NO_RULES) {
                due("stuck(" + rule + ") on " + length, x.stuck(rule), WRONG);
            }
        }
        due("a new object", new PegTables().stuck(0), 0);
        due("each place of a star that comes to a stuck one",
            Checks.object("ANY @3 ELSE STAR =0 @3 =3", TWENTY).stuck(0), 21);
    }

    // Promise 11: "CALL r fails where rule r has no expression; where it has one that has no
    // outcome at p, CALL r has none there either."

    private static void rulesWithoutExpressionFail() {
        for (int none = 0; none < 4; none++) {
            int rule = (none + 1) & 3;
            PegTables x = Checks.object("@" + none + " =" + rule, "ab");
            for (int place = 0; place <= 2; place++) {
                due("CALL " + none + " at " + place, x.match(rule, place), FAILS);
                due("rule " + none + " itself at " + place, x.match(none, place), FAILS);
            }
            Checks.tokens(x, "@" + none + " ANY ELSE =" + rule);
            due("the other choice is tried", x.matches(rule), 2);
            Checks.tokens(x, "a =" + none);
            due("no more without expression", x.find(none, 0), 0);
            x.clear();
            Checks.tokens(x, "@" + none + " NOT =" + rule);
            due("without expression again", x.matches(rule), 3);
        }
    }

    private static void rulesWithoutOutcomeGiveNone() {
        for (int none = 0; none < 4; none++) {
            int rule = (none + 1) & 3;
            PegTables x = Checks.object("a @" + none + " ELSE =" + none + " @" + none + " =" + rule, "ab");
            due("where it has one", x.match(rule, 0), 1);
            due("where it has none", x.match(rule, 1), STUCK);
            due("where it has none, at the end", x.match(rule, 2), STUCK);
            Checks.tokens(x, "@" + none + " NOTHING ELSE =" + rule);
            due("the other choice is not tried", x.match(rule, 1), STUCK);
            Checks.tokens(x, "@" + none + " NOT =" + rule);
            due("it is not taken for failing", x.match(rule, 1), STUCK);
            due("it is not taken for failing", x.matches(rule), 0);
            due("it is not taken for failing", x.stuck(rule), 2);
        }
    }
}
