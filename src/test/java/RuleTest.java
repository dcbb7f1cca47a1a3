/** Promise 3: rule, and what a rule, a pattern and a template are. */
final class RuleTest {
    private static final Checks CHECKS = new Checks();

    public static void main(String[] args) {
        accepted();
        refusedTexts();
        refusedPatterns();
        refusedTemplates();
        depths();
        counts();
        full();
        draftIsEmptyThen();
        CHECKS.end();
    }

    private static void isRule(String... texts) {
        for (String text : texts) {
            CHECKS.same("rule " + text, "1", Checks.rule(new MacroForge(), text));
        }
    }

    private static void isNone(String... texts) {
        for (String text : texts) {
            MacroForge forge = new MacroForge();
            CHECKS.same("rule " + text, Checks.ILLEGAL_ARGUMENT, Checks.rule(forge, text));
            CHECKS.same("rules() behind " + text, 0, forge.rules());
        }
    }

    private static void accepted() {
        isRule("(a)=1", "(a)=L", "(a)=()", "(a)=b", " ( a ) = 1 ", "(a)=(a)");
        isRule("(a x 1 L I Q _ () (y 2 _ (z)))=x");
        isRule("(a _ _ 1 1 L L)=1");
        isRule("(a x~)=1", "(a _~)=1", "(a 1~)=1", "(a L~)=1", "(a ()~)=1", "(a (x y)~)=1");
        isRule("(a (x~) (y~))=1", "(a (x (y z~)) w~)=1", "(a ((x~)))=1");
        isRule("(a x~)=(x~)", "(a x~)=(x~ x~ 1 x~)", "(a x~)=((b x)~)", "(a x~)=((x (x))~)");
        isRule("(a x y~)=((x y)~)", "(a (x~) (y~))=((x y)~ (x~) y~)", "(a x)=(x x (x))");
        // The macro is no variable: its letter may be one's besides.
        isRule("(a a)=a", "(a a~)=(a~)");
    }

    private static void refusedTexts() {
        isNone("", " ", "=", "(a)", "(a)=", "=1", "(a)=1=1", "(a)==1", "(a=1", "a)=1", "(a)=(1",
                "(a)=1)", "(a)=1 2", "(a)(b)=1", "((a)=1", "(a))=1");
        isNone("(a A)=1", "(a)=A", "(a +)=1", "(a)=+", "(a 'x)=1", "(a [x])=1", "(a {)=1",
                "(a `)=1");
    }

    private static void refusedPatterns() {
        isNone("a=1", "()=1", "(1)=1", "(L)=1", "(_)=1", "((a))=1", "((a) x)=1");
        isNone("(a x x)=1", "(a x (x))=1", "(a x (y x~))=1", "(a a a)=1", "(a (x) x~)=1");
        isNone("(a~)=1", "(a~ x)=1", "(a x~ y)=1", "(a (x~ y))=1", "(a (x)~ y)=1", "(a x~~)=1");
        isNone("(a (x~)~)=1", "(a (x (y~))~)=1", "(a)~=1", "(~a)=1", "(a ~)=1", "(a (~))=1",
                "~(a)=1", "(a (b~ 1)~)=1");
    }

    private static void refusedTemplates() {
        isNone("(a)=_", "(a)=(_)", "(a)=~", "(a)=1~", "(a)=(1)~", "(a x~)=x~", "(a x~)=(x~)~");
        isNone("(a x)=(x~)", "(a)=(y~)", "(a)=(1~)", "(a x~)=((1)~)", "(a x~)=(()~)");
        isNone("(a x~)=x", "(a x~)=(x)", "(a x~)=((x) x~)", "(a x~)=(x~ x)", "(a (x~))=(x)");
        isNone("(a x~)=(x~~)", "(a x~)=((x~)~)", "(a x~)=((x (x~))~)", "(a x~)=(~x)",
                "(a x~)=(~)", "(a (x~) (y~))=((x y~)~)");
    }

    private static void depths() {
        String eight = "(((((((())))))))";
        String nine = "(" + eight + ")";
        isRule("(a)=" + eight, "(a" + eight.substring(1, 15) + ")=1");
        isNone("(a)=" + nine, "(a" + eight + ")=1");
        isRule("(a x~)=(((((((x~)))))))", "(a(((((((x~))))))))=1");
        isNone("(a(((((((()~))))))))=1");
    }

    private static void counts() {
        MacroForge forge = new MacroForge();
        CHECKS.same("first of a", "1", Checks.rule(forge, "(a)=1"));
        CHECKS.same("first of b", "1", Checks.rule(forge, "(b)=1"));
        CHECKS.same("second of a", "2", Checks.rule(forge, "(a x)=1"));
        CHECKS.same("a rule told again", "3", Checks.rule(forge, "(a x)=1"));
        CHECKS.same("no rule", Checks.ILLEGAL_ARGUMENT, Checks.rule(forge, "(a x)"));
        CHECKS.same("second of b", "2", Checks.rule(forge, "(b a)=1"));
        forge.forget('a');
        CHECKS.same("a anew", "1", Checks.rule(forge, "(a)=1"));
    }

    private static void full() {
        MacroForge forge = new MacroForge();
        for (int n = 0; n < 12; n++) {
            char macro = (char) ('a' + n % 2);
            CHECKS.same("rule " + n, String.valueOf(n / 2 + 1),
                    Checks.rule(forge, "(" + macro + " " + n % 10 + ")=" + n % 10));
        }
        CHECKS.same("rule 13", Checks.UNSUPPORTED, Checks.rule(forge, "(c)=1"));
        CHECKS.same("no rule at 12", Checks.ILLEGAL_ARGUMENT, Checks.rule(forge, "(c)"));
        CHECKS.same("rules() at 12", 12, forge.rules());
        CHECKS.same("the 12th rule works", "11", Checks.expand(forge, "(b 1)", 1));
        CHECKS.same("the 13th was not told", "1 102 2", Checks.expand(forge, "(c)", 1));
        forge.forget('a');
        CHECKS.same("room again", "1", Checks.rule(forge, "(c)=3"));
        CHECKS.same("rules() then", 7, forge.rules());
        CHECKS.same("the new one works", "13", Checks.expand(forge, "(c)", 1));
    }

    private static void draftIsEmptyThen() {
        MacroForge forge = Checks.forge("(a)=1");
        CHECKS.same("behind a rule", "17", Checks.expand(forge, "7", 0));
        Checks.rule(forge, "(a");
        CHECKS.same("behind no rule", "18", Checks.expand(forge, "8", 0));
        for (int n = 0; n < 12; n++) {
            Checks.rule(forge, "(a)=1");
        }
        CHECKS.same("behind a rule too many", "19", Checks.expand(forge, "9", 0));
    }
}
