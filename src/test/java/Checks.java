/** What the tests share: calls with their answers as texts, and a count of those that are wrong. */
final class Checks {
    static final String ILLEGAL_ARGUMENT = "IllegalArgumentException";
    static final String ILLEGAL_STATE = "IllegalStateException";
    static final String UNSUPPORTED = "UnsupportedOperationException";

    private int done;
    private int wrong;
    private int sentences;
    private String sentence = "";

    /** Runs tests of one sentence each, none of which is kept from running by another one. */
    void sentences(Runnable... tests) {
        for (Runnable test : tests) {
            int before = done;
            sentence = "";
            try {
                test.run();
            } catch (RuntimeException | AssertionError e) {
                same("a call in the test", "no exception", e);
            }
            sentences++;
            if (sentence.isEmpty() || done == before) {
                same("the test of sentence " + sentences + " " + sentence, "some answers", "none");
            }
        }
    }

    /** The words of the document that the answers behind this are held to. */
    void sentence(String words) {
        sentence = words;
    }

    void same(String what, Object due, Object got) {
        done++;
        if (!due.equals(got)) {
            wrong++;
            System.out.println((sentence.isEmpty() ? "" : "[" + sentence + "] ") + what
                    + " answered " + got + ", due is " + due);
        }
    }

    /** Expands a text with a new object that was told some rules. */
    void expands(String text, int fuel, String due, String... rules) {
        same("expand(" + fuel + ") of " + text + " by " + String.join(" ", rules), due,
                expand(forge(rules), text, fuel));
    }

    /** Tells each text to a new object as its first rule. */
    void areRules(String... texts) {
        for (String text : texts) {
            MacroForge forge = new MacroForge();
            same("rule() of " + text, "1", rule(forge, text));
            same("rules() behind " + text, 1, forge.rules());
        }
    }

    void areNoRules(String... texts) {
        for (String text : texts) {
            MacroForge forge = new MacroForge();
            same("rule() of " + text, ILLEGAL_ARGUMENT, rule(forge, text));
            same("rules() behind " + text, 0, forge.rules());
        }
    }

    /** Ends the test: with exit code 1 if an answer was wrong. */
    void end() {
        System.out.println((sentences > 0 ? sentences + " sentences, " : "") + done + " answers, "
                + wrong + " wrong");
        if (wrong != 0) {
            System.exit(1);
        }
    }

    static MacroForge forge(String... rules) {
        MacroForge forge = new MacroForge();
        for (String rule : rules) {
            String answer = rule(forge, rule);
            if (answer.endsWith("Exception")) {
                throw new AssertionError("a test's rule was refused: " + rule + " " + answer);
            }
        }
        return forge;
    }

    static void type(MacroForge forge, String text) {
        for (char c : text.toCharArray()) {
            if (!forge.type(c)) {
                throw new AssertionError("a test's text was refused: " + text);
            }
        }
    }

    /** What rule() answers to a text: a number, or the name of what it throws. */
    static String rule(MacroForge forge, String text) {
        type(forge, text);
        try {
            return String.valueOf(forge.rule());
        } catch (RuntimeException e) {
            return e.getClass().getSimpleName();
        }
    }

    /** What expand() answers to a text: the result's marks, or the name of what it throws. */
    static String expand(MacroForge forge, String text, int fuel) {
        type(forge, text);
        try {
            int length = forge.expand(fuel);
            String marks = marks(forge);
            int seen = marks.isEmpty() ? 0 : marks.split(" ").length;
            return length == seen ? marks : "expand answered " + length + " for " + marks;
        } catch (RuntimeException e) {
            return e.getClass().getSimpleName();
        }
    }

    /** A text in so many lists. */
    static String nest(int lists, String inner) {
        return "(".repeat(lists) + inner + ")".repeat(lists);
    }

    /** The marks of a text in so many lists, those of the text being told. */
    static String nestMarks(int lists, String inner) {
        return "1 ".repeat(lists) + inner + " 2".repeat(lists);
    }

    static String marks(MacroForge forge) {
        StringBuilder marks = new StringBuilder();
        int mark = forge.mark(0);
        for (int k = 1; mark != MacroForge.NONE && k <= 200; k++) {
            marks.append(k == 1 ? "" : " ").append(mark);
            mark = forge.mark(k);
        }
        return marks.toString();
    }
}
