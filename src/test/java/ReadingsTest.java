/** The places where the document's words leave room, each held to its plainest reading. */
final class ReadingsTest {
    private static final Checks CHECKS = new Checks();
    /** By this rule, the text behind it makes 143 marks with 4 replacements. */
    private static final String TRIPLE = "(c x)=(x x x)";
    private static final String WIDE = "(c(c(1111111111111)))";

    public static void main(String[] args) {
        CHECKS.sentences(ReadingsTest::macroIsNoVariable, ReadingsTest::noRuleBeforeTwelve,
                ReadingsTest::forgottenIsNoMacro, ReadingsTest::malformedBeforeItsMarks,
                ReadingsTest::refusedIsNoExpansion);
        CHECKS.end();
    }

    private static void macroIsNoVariable() {
        CHECKS.sentence("The names but the macro are VARIABLES, each there once");
        CHECKS.areRules("(a a)=a", "(a (a))=a", "(a a~)=(a~)", "(a b a)=(b a)", "(a)=a");
        CHECKS.areNoRules("(a a a)=a", "(a b b)=a", "(a a (a))=a", "(a b (b~))=a", "(a a~)=a");
        CHECKS.expands("(a 7)", 1, "17", "(a a)=a");
        CHECKS.expands("(a (7))", 1, "17", "(a (a))=a");
        CHECKS.expands("(a 7 8)", 1, "1 17 18 2", "(a a~)=(a~)");
        CHECKS.expands("(L b (a b))", 1, "1 3 1 3 200 2 2", "(a a)=(L t a)");
        // Where it is no variable, the macro's letter is a name like others: NEW, and a use again.
        CHECKS.expands("(L a (b 7))", 1, "1 3 101 2", "(b x)=b");
        CHECKS.expands("(a 7)", 2, "17", "(a)=7", "(a x)=(a)");
    }

    private static void noRuleBeforeTwelve() {
        CHECKS.sentence("IllegalArgumentException: it is none. UnsupportedOperationException: there"
                + " are 12 rules.");
        String[] none = {"", "1", "(z)", "(z)=", "z=1", "(z~)=1", "(z x x)=1", "(z x~)=x", "(z)=1)"};
        MacroForge forge = new MacroForge();
        for (int n = 1; n <= 12; n++) {
            CHECKS.same("rule " + n, String.valueOf(n),
                    Checks.rule(forge, "(m" + "1".repeat(n) + ")=7"));
        }
        for (String text : none) {
            CHECKS.same("with 12 rules, rule() of " + text, Checks.ILLEGAL_ARGUMENT,
                    Checks.rule(forge, text));
            CHECKS.same("a rule behind it", Checks.UNSUPPORTED, Checks.rule(forge, "(z)=1"));
        }
        CHECKS.same("rules()", 12, forge.rules());
    }

    private static void forgottenIsNoMacro() {
        CHECKS.sentence("All rules of a macro go");
        MacroForge forge = Checks.forge("(m x)=x", "(n)=(m 1)", "(m)=8");
        CHECKS.same("a use by a rule", "11", Checks.expand(forge, "(n)", 2));
        CHECKS.same("forget", 2, forge.forget('m'));
        CHECKS.same("a plain list", "1 112 11 2", Checks.expand(forge, "(m 1)", 0));
        CHECKS.same("a list that no rule matched", "1 112 11 12 2",
                Checks.expand(forge, "(m 1 2)", 0));
        CHECKS.same("a list that a rule brings in", "1 112 11 2", Checks.expand(forge, "(n)", 1));
        CHECKS.same("told anew", "1", Checks.rule(forge, "(m 2)=9"));
        CHECKS.same("the new rule alone", "19 " + Checks.ILLEGAL_STATE,
                Checks.expand(forge, "(m 2)", 1) + " " + Checks.expand(forge, "(m 1)", 1));
    }

    private static void malformedBeforeItsMarks() {
        CHECKS.sentence("the outer before the inner, marks of the result coming as they are found."
                + " What is found first is thrown.");
        // Behind 150 marks each is malformed; one mark more comes before it, and is too many.
        for (String malformed : new String[] {"()", "L", "(L)", "(L1x)", "(Lx)", "(Lxxx)", "(I)",
                "(I11)", "(I1111)", "(Q)", "(Q11)", "(c)", "(c11)"}) {
            behindMarks("111111" + malformed, Checks.ILLEGAL_STATE);
            behindMarks("1111111" + malformed, Checks.UNSUPPORTED);
        }
        // The marks of a list that is well formed come before what is malformed in it.
        behindMarks("11111(())", Checks.ILLEGAL_STATE);
        behindMarks("111111(())", Checks.UNSUPPORTED);
        for (String list : new String[] {"(LxL)", "(Lx())", "(I()11)", "(1())"}) {
            behindMarks("1111" + list, Checks.ILLEGAL_STATE);
            behindMarks("11111" + list, Checks.UNSUPPORTED);
        }
    }

    /** Expands a list whose own mark and first item make 144 marks, with one replacement left. */
    private static void behindMarks(String items, String due) {
        CHECKS.expands("(" + WIDE + items + ")", 5, due, TRIPLE);
    }

    private static void refusedIsNoExpansion() {
        CHECKS.sentence("How many replacements the latest expansion made, also if it threw"
                + " IllegalStateException or UnsupportedOperationException");
        refused("((m 1) (m 2))", 2, 2);
        refused("((m 1) ())", 2, 1);
        refused("((m 1) (m 2))", 1, 1);
        refused("7", 0, 0);
    }

    private static void refused(String text, int fuel, int due) {
        for (String none : new String[] {"", "(", "1 2", "(m~)", "_"}) {
            behindRefused(text, fuel, none, 12, due);
        }
        for (int wrongFuel : new int[] {-1, 13, Integer.MIN_VALUE, Integer.MAX_VALUE}) {
            behindRefused(text, fuel, "(m 1)", wrongFuel, due);
        }
    }

    private static void behindRefused(String text, int fuel, String none, int noneFuel, int due) {
        MacroForge forge = Checks.forge("(m x)=x");
        Checks.expand(forge, text, fuel);
        CHECKS.same("expand(" + noneFuel + ") of " + none, Checks.ILLEGAL_ARGUMENT,
                Checks.expand(forge, none, noneFuel));
        CHECKS.same("replaced() behind " + text + ", then " + none, due, forge.replaced());
    }
}
