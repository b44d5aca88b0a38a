/** What the tests share: counting wrong answers, and short words for grammars and texts. */
final class Checks {
    private int wrong = 0;
    private int made = 0;

    void due(String what, long got, long want) {
        made++;
        if (got != want) {
            wrong++;
            System.out.println(what + " answered " + got + ", due is " + want);
        }
    }

    void holds(String what, boolean truth) {
        made++;
        if (!truth) {
            wrong++;
            System.out.println("does not hold: " + what);
        }
    }

    int wrong() {
        return wrong;
    }

    void end() {
        System.out.println(made + " checks, " + wrong + " wrong");
        if (wrong != 0) {
            System.exit(1);
        }
    }

    /** An object with the grammar and the text, both in the short words below. */
    static PegTables object(String grammar, String text) {
        PegTables x = new PegTables();
        tokens(x, grammar);
        type(x, text);
        return x;
    }

    /** Takes tokens such as "a ANY THEN =0": a to d are letters, @r calls rule r, =r defines it. */
    static int tokens(PegTables x, String words) {
        int answer = 0;
        for (String word : words.trim().split("\\s+")) {
            if (!word.isEmpty()) {
                answer = token(x, word);
            }
        }
        return answer;
    }

    static void type(PegTables x, String letters) {
        for (int i = 0; i < letters.length(); i++) {
            x.type(letters.charAt(i) - 'a');
        }
    }

    private static int token(PegTables x, String word) {
        switch (word) {
            case "ANY": return x.token(PegTables.ANY, 0);
            case "NOTHING": return x.token(PegTables.NOTHING, 0);
            case "THEN": return x.token(PegTables.THEN, 0);
            case "ELSE": return x.token(PegTables.ELSE, 0);
            case "STAR": return x.token(PegTables.STAR, 0);
            case "MAYBE": return x.token(PegTables.MAYBE, 0);
            case "AHEAD": return x.token(PegTables.AHEAD, 0);
            case "NOT": return x.token(PegTables.NOT, 0);
            default: return tokenWithArgument(x, word);
        }
    }

    private static int tokenWithArgument(PegTables x, String word) {
        if (word.matches("[a-d]")) {
            return x.token(PegTables.LETTER, word.charAt(0) - 'a');
        }
        if (word.matches("@[0-3]")) {
            return x.token(PegTables.CALL, word.charAt(1) - '0');
        }
        if (word.matches("=[0-3]")) {
            return x.token(PegTables.DEFINE, word.charAt(1) - '0');
        }
        throw new IllegalArgumentException("no such word: " + word);
    }
}
