/** Promises 1 to 5: a new object, type, rule, forget and rules, a test a sentence. */
final class RuleEdgesTest {
    private static final Checks CHECKS = new Checks();

    public static void main(String[] args) {
        CHECKS.sentences(RuleEdgesTest::calls, RuleEdgesTest::noRules, RuleEdgesTest::emptyDraft,
                RuleEdgesTest::noResult, RuleEdgesTest::behindTheDraft, RuleEdgesTest::codes,
                RuleEdgesTest::sixty, RuleEdgesTest::draftIsEmptyBehindRule,
                RuleEdgesTest::howManyItsMacroHas, RuleEdgesTest::noneIsRefused,
                RuleEdgesTest::twelve, RuleEdgesTest::forget, RuleEdgesTest::rules);
        CHECKS.end();
    }

    private static void calls() {
        CHECKS.sentence("An object is used for at most 512 calls after it has been made");
        MacroForge forge = new MacroForge();
        int calls = 0;
        for (int n = 0; n < 12; n++) {
            String rule = "(m" + "1".repeat(n) + ")=(n)";
            Checks.rule(forge, rule);
            calls += rule.length() + 1;
        }
        while (calls + 5 <= 510) {
            Checks.type(forge, "(m)");
            CHECKS.same("call " + (calls + 4), 3, forge.expand(12));
            CHECKS.same("call " + (calls + 5), 1, forge.replaced());
            calls += 5;
        }
        while (calls < 510) {
            calls++;
            CHECKS.same("call " + calls, MacroForge.NONE, forge.mark(3));
        }
        CHECKS.same("call 511", 113, forge.mark(1));
        CHECKS.same("call 512", 12, forge.rules());
    }

    private static void noRules() {
        CHECKS.sentence("No rules");
        MacroForge forge = new MacroForge();
        CHECKS.same("rules()", 0, forge.rules());
        for (char c = 'a'; c <= 'z'; c++) {
            CHECKS.same("forget " + c, 0, forge.forget(c));
            CHECKS.same("use of " + c, "1 " + (100 + c - 'a') + " 2",
                    Checks.expand(forge, "(" + c + ")", 0));
        }
        Checks.rule(forge, "(a)=1");
        CHECKS.same("another object has one", 0, new MacroForge().rules());
        CHECKS.same("another object's rule", "1 100 2",
                Checks.expand(new MacroForge(), "(a)", 1));
    }

    private static void emptyDraft() {
        CHECKS.sentence("an empty draft");
        CHECKS.same("rule()", Checks.ILLEGAL_ARGUMENT, Checks.rule(new MacroForge(), ""));
        CHECKS.same("expand()", Checks.ILLEGAL_ARGUMENT, Checks.expand(new MacroForge(), "", 0));
        CHECKS.same("what is typed is all of it", "17", Checks.expand(new MacroForge(), "7", 0));
        Checks.type(new MacroForge(), "(a");
        CHECKS.same("another object has one", Checks.ILLEGAL_ARGUMENT,
                Checks.expand(new MacroForge(), ")", 0));
    }

    private static void noResult() {
        CHECKS.sentence("no result.");
        MacroForge forge = new MacroForge();
        for (int k = -2; k <= 151; k++) {
            CHECKS.same("mark(" + k + ")", MacroForge.NONE, forge.mark(k));
        }
        CHECKS.same("depth()", 0, forge.depth());
        CHECKS.same("replaced()", 0, forge.replaced());
        Checks.expand(forge, "((7))", 0);
        CHECKS.same("another object has one", "-99 0",
                new MacroForge().mark(0) + " " + new MacroForge().depth());
    }

    private static void behindTheDraft() {
        CHECKS.sentence("Puts a character behind the draft");
        MacroForge forge = new MacroForge();
        for (char c : "(Q(ab1))".toCharArray()) {
            CHECKS.same("type of " + c, true, forge.type(c));
        }
        CHECKS.same("in their order", "1 5 1 100 101 11 2 2", Checks.expand(forge, "", 0));
        Checks.type(forge, "(Q(");
        CHECKS.same("other calls leave it", "0 0 0 1 2", forge.rules() + " " + forge.replaced()
                + " " + forge.forget('a') + " " + forge.mark(0) + " " + forge.depth());
        CHECKS.same("all of it", "1 5 1 101 100 2 2", Checks.expand(forge, "ba))", 0));
    }

    private static void codes() {
        CHECKS.sentence("false if its code isn't 32 .. 126");
        for (int code = 0; code <= 65535; code++) {
            CHECKS.same("type of code " + code, code >= 32 && code <= 126,
                    new MacroForge().type((char) code));
        }
        MacroForge forge = new MacroForge();
        int[] wrong = {0, 9, 10, 31, 127, 128, 160, 255, 256 + '1', 32768 + '1', 65535};
        for (int code : wrong) {
            CHECKS.same("type of code " + code + " again", false, forge.type((char) code));
        }
        for (int n = 0; n < 60; n++) {
            CHECKS.same("they don't count: character " + n, true, forge.type(n < 59 ? ' ' : '8'));
        }
        CHECKS.same("they are not put there", "18", Checks.expand(forge, "", 0));
    }

    private static void sixty() {
        CHECKS.sentence("or 60 are there.");
        String text = "(" + "1".repeat(58) + ")";
        for (String first : new String[] {"", "(m)=1", "(m", "m"}) {
            MacroForge forge = new MacroForge();
            // The draft is empty behind each of these calls: 60 more go there.
            Checks.rule(forge, first);
            Checks.expand(forge, first, 0);
            for (int n = 0; n < 60; n++) {
                CHECKS.same("character " + n, true, forge.type(text.charAt(n)));
            }
            for (char c : "1 )~".toCharArray()) {
                CHECKS.same("character 60: " + c, false, forge.type(c));
            }
            CHECKS.same("code 127 at 60", false, forge.type((char) 127));
            CHECKS.same("the 60 are a text", "1" + " 11".repeat(58) + " 2",
                    Checks.expand(forge, "", 0));
        }
        sixtyOfARule();
    }

    private static void sixtyOfARule() {
        MacroForge forge = new MacroForge();
        Checks.type(forge, "(m" + "1".repeat(50) + ")=7    ");
        CHECKS.same("blank 59", true, forge.type(' '));
        CHECKS.same("blank 60", false, forge.type(' '));
        CHECKS.same("a rule with blanks", "1", Checks.rule(forge, ""));
        CHECKS.same("it works", "17", Checks.expand(forge, "(m" + "1".repeat(50) + ")", 1));
        CHECKS.same("a rule of 60", "2", Checks.rule(forge, "(m" + "1".repeat(55) + ")=8"));
        CHECKS.same("it works, too", "18", Checks.expand(forge, "(m" + "1".repeat(55) + ")", 1));
    }

    private static void draftIsEmptyBehindRule() {
        CHECKS.sentence("Tells the draft as a rule (the draft is empty then, in any case)");
        MacroForge forge = new MacroForge();
        Checks.rule(forge, "(m)=1");
        CHECKS.same("behind a rule", "17", Checks.expand(forge, "7", 0));
        CHECKS.same("told once", Checks.ILLEGAL_ARGUMENT, Checks.rule(forge, ""));
        for (String none : new String[] {"", "(m", "(m)", "(m)=", "7", "(m x~)=x", " "}) {
            Checks.rule(forge, none);
            CHECKS.same("behind " + none, "18", Checks.expand(forge, "8", 0));
        }
        for (int n = 1; n < 12; n++) {
            Checks.rule(forge, "(m)=1");
        }
        CHECKS.same("a rule too many", Checks.UNSUPPORTED, Checks.rule(forge, "(m)=1"));
        CHECKS.same("behind it", "19", Checks.expand(forge, "9", 0));
        CHECKS.same("no rule at 12", Checks.ILLEGAL_ARGUMENT, Checks.rule(forge, "(m)="));
        CHECKS.same("behind that", "19", Checks.expand(forge, "9", 0));
    }

    private static void howManyItsMacroHas() {
        CHECKS.sentence("how many rules its macro has.");
        MacroForge forge = new MacroForge();
        for (int n = 1; n <= 4; n++) {
            CHECKS.same("of a", String.valueOf(n), Checks.rule(forge, "(a " + n + ")=1"));
            CHECKS.same("of b", String.valueOf(n), Checks.rule(forge, "(b)=1"));
        }
        CHECKS.same("of z", "1", Checks.rule(forge, "(z a b)=1"));
        forge.forget('b');
        CHECKS.same("of b anew", "1", Checks.rule(forge, "(b)=1"));
        CHECKS.same("of a still", "5", Checks.rule(forge, "(a)=1"));
        MacroForge full = new MacroForge();
        for (int n = 1; n <= 12; n++) {
            CHECKS.same("of m", String.valueOf(n), Checks.rule(full, "(m)=1"));
        }
    }

    private static void noneIsRefused() {
        CHECKS.sentence("IllegalArgumentException: it is none.");
        CHECKS.areNoRules("", " ", "7", "(m)", "(m)=", "=(m)", "(m x x)=1", "(m x~ y)=1",
                "(m x~)=(x)", "(m x)=(x~)", "(m)=_", "(1)=1", "(m)=(1", "(m)=1)");
        MacroForge forge = Checks.forge("(m x)=x", "(n)=2");
        CHECKS.same("none", Checks.ILLEGAL_ARGUMENT, Checks.rule(forge, "(m y)=y y"));
        CHECKS.same("none that begins well", Checks.ILLEGAL_ARGUMENT, Checks.rule(forge, "(n)=(3"));
        CHECKS.same("the others stay", "2 11 12", forge.rules() + " "
                + Checks.expand(forge, "(m 1)", 1) + " " + Checks.expand(forge, "(n)", 1));
        CHECKS.same("none that would match", Checks.ILLEGAL_ARGUMENT,
                Checks.rule(forge, "(n y)=(y"));
        CHECKS.same("it doesn't", Checks.ILLEGAL_STATE, Checks.expand(forge, "(n 1)", 1));
        CHECKS.same("the others are counted", "2", Checks.rule(forge, "(m)=1"));
        leavesNothing("(m x y~)=_", "(m x)=(x y)", "(m 1)", "1 11 124 2");
        leavesNothing("(m x t u)=_", "(m x)=(x t u)", "(m 1)", "1 11 119 120 2");
        leavesNothing("(m x~)=x", "(m x)=(Q x)", "(m 1)", "1 5 11 2");
        leavesNothing("(m x)=(x~)", "(m x~)=(x~)", "(m 1 2)", "1 11 12 2");
        leavesNothing("(m x~)=(x~ x x)", "(m x~)=(x~)", "(m 1 2)", "1 11 12 2");
        leavesNothing("(m x~)=(x~ x~ x)", "(m x~)=(x~)", "(m 1 2)", "1 11 12 2");
        leavesNothing("(m x~)=(x~ 1~)", "(m x~)=(x~)", "(m 1 2)", "1 11 12 2");
        leavesNothing("(m (x~) (y~))=(x~ (x y)~ _)", "(m (x~) (y~))=(x~ y~)", "(m (1) (2 3))",
                "1 11 12 13 2");
    }

    /** What is no rule changes nothing of a rule that is told behind it. */
    private static void leavesNothing(String none, String rule, String use, String due) {
        MacroForge forge = new MacroForge();
        CHECKS.same("rule() of " + none, Checks.ILLEGAL_ARGUMENT, Checks.rule(forge, none));
        CHECKS.same("rule() of " + rule + " then", "1", Checks.rule(forge, rule));
        CHECKS.same("expand of " + use + " then", due, Checks.expand(forge, use, 1));
    }

    private static void twelve() {
        CHECKS.sentence("UnsupportedOperationException: there are 12 rules.");
        MacroForge forge = new MacroForge();
        for (int n = 1; n <= 12; n++) {
            char macro = (char) ('a' + n);
            CHECKS.same("rule " + n, "1", Checks.rule(forge, "(" + macro + ")=" + n % 10));
        }
        CHECKS.same("rule 13", Checks.UNSUPPORTED, Checks.rule(forge, "(z)=1"));
        CHECKS.same("rule 13 of a macro with one", Checks.UNSUPPORTED,
                Checks.rule(forge, "(m x)=1"));
        CHECKS.same("they are not told", "12 1 125 2 " + Checks.ILLEGAL_STATE, forge.rules() + " "
                + Checks.expand(forge, "(z)", 1) + " " + Checks.expand(forge, "(m 1)", 1));
        for (int n = 1; n <= 12; n++) {
            char macro = (char) ('a' + n);
            CHECKS.same("the others stay", "1" + n % 10,
                    Checks.expand(forge, "(" + macro + ")", 1));
        }
        CHECKS.same("one goes", 1, forge.forget('b'));
        CHECKS.same("one comes", "1", Checks.rule(forge, "(z)=1"));
        CHECKS.same("full again", Checks.UNSUPPORTED, Checks.rule(forge, "(y)=1"));
        CHECKS.same("the new one is there", "11", Checks.expand(forge, "(z)", 1));
    }

    private static void forget() {
        CHECKS.sentence("All rules of a macro go: how many.");
        MacroForge forge = Checks.forge("(a)=1", "(b)=2", "(a x)=3", "(c)=4", "(a x y)=5");
        for (int code = 0; code <= 255; code++) {
            if (code < 'a' || code > 'c') {
                CHECKS.same("of code " + code, 0, forge.forget((char) code));
            }
        }
        CHECKS.same("of codes far above", "0 0 0", forge.forget((char) (256 + 'a')) + " "
                + forge.forget((char) (32768 + 'a')) + " " + forge.forget((char) 65535));
        CHECKS.same("all are there", 5, forge.rules());
        CHECKS.same("of a", 3, forge.forget('a'));
        CHECKS.same("of a again", 0, forge.forget('a'));
        CHECKS.same("first, middle and last went", "1 100 2 1 100 11 2 1 100 11 11 2",
                Checks.expand(forge, "(a)", 1) + " " + Checks.expand(forge, "(a 1)", 1) + " "
                        + Checks.expand(forge, "(a 1 1)", 1));
        CHECKS.same("the others stay", "12 14",
                Checks.expand(forge, "(b)", 1) + " " + Checks.expand(forge, "(c)", 1));
        CHECKS.same("of c", 1, forge.forget('c'));
        CHECKS.same("of b", 1, forge.forget('b'));
        CHECKS.same("of b, with none left", 0, forge.forget('b'));

        MacroForge full = new MacroForge();
        for (int n = 0; n < 12; n++) {
            Checks.rule(full, "(z" + "1".repeat(n) + ")=1");
        }
        Checks.expand(full, "((z))", 1);
        Checks.type(full, "(z");
        CHECKS.same("all 12", 12, full.forget('z'));
        CHECKS.same("the result stays", "1 11 2 | 1 1", Checks.marks(full) + " | " + full.depth()
                + " " + full.replaced());
        CHECKS.same("the draft stays", "1 125 2", Checks.expand(full, ")", 1));
    }

    private static void rules() {
        CHECKS.sentence("How many rules there are.");
        MacroForge forge = new MacroForge();
        for (int n = 0; n < 12; n++) {
            CHECKS.same("rules()", n, forge.rules());
            Checks.rule(forge, n < 7 ? "(m)=1" : "(n)=1");
        }
        CHECKS.same("rules() at 12", 12, forge.rules());
        Checks.rule(forge, "(o)=1");
        CHECKS.same("rules() behind one too many", 12, forge.rules());
        Checks.rule(forge, "(o)");
        CHECKS.same("rules() behind none", 12, forge.rules());
        Checks.expand(forge, "(m)", 12);
        CHECKS.same("rules() behind an expansion", 12, forge.rules());
        forge.forget('m');
        CHECKS.same("rules() without m", 5, forge.rules());
        forge.forget('n');
        CHECKS.same("rules() without all", 0, forge.rules());
    }
}
