/** What the tests share: calls with their answers as texts, and a count of those that are wrong. */
final class Checks {
    static final String ILLEGAL_ARGUMENT = "IllegalArgumentException";
    static final String ILLEGAL_STATE = "IllegalStateException";
    static final String UNSUPPORTED = "UnsupportedOperationException";

    private int done;
    private int wrong;

    void same(String what, Object due, Object got) {
        done++;
        if (!due.equals(got)) {
            wrong++;
            System.out.println(what + " answered " + got + ", due is " + due);
        }
    }

    /** Ends the test: with exit code 1 if an answer was wrong. */
    void end() {
        System.out.println(done + " answers, " + wrong + " wrong");
        if (wrong != 0) {
            System.exit(1);
        }
    }

    static MacroForge forge(String... rules) {
        MacroForge forge = new MacroForge();
        for (String rule : rules) {
            String answer = rule(forge, rule);
            if (answer.endsWith("Exception")) {
                throw new AssertionError("a test's rule was refused: " + rule + " " + answer);
            }
        }
        return forge;
    }

    static void type(MacroForge forge, String text) {
        for (char c : text.toCharArray()) {
            if (!forge.type(c)) {
                throw new AssertionError("a test's text was refused: " + text);
            }
        }
    }

    /** What rule() answers to a text: a number, or the name of what it throws. */
    static String rule(MacroForge forge, String text) {
        type(forge, text);
        try {
            return String.valueOf(forge.rule());
        } catch (RuntimeException e) {
            return e.getClass().getSimpleName();
        }
    }

    /** What expand() answers to a text: the result's marks, or the name of what it throws. */
    static String expand(MacroForge forge, String text, int fuel) {
        type(forge, text);
        try {
            int length = forge.expand(fuel);
            String marks = marks(forge);
            int seen = marks.isEmpty() ? 0 : marks.split(" ").length;
            return length == seen ? marks : "expand answered " + length + " for " + marks;
        } catch (RuntimeException e) {
            return e.getClass().getSimpleName();
        }
    }

    static String marks(MacroForge forge) {
        StringBuilder marks = new StringBuilder();
        for (int k = 0; forge.mark(k) != MacroForge.NONE; k++) {
            marks.append(k == 0 ? "" : " ").append(forge.mark(k));
        }
        return marks.toString();
    }
}
