/** Promise 7: replaced. */
final class ReplacedTest {
    private static final Checks CHECKS = new Checks();

    public static void main(String[] args) {
        after("7", 12, 0);
        after("(m 1)", 12, 1, "(m x)=x");
        after("((m 1) (m 2) (m 3))", 12, 3, "(m x)=x");
        after("(m (m (m 1)))", 12, 3, "(m x)=x");
        after("(m (m 1))", 12, 1, "(m x)=7");
        after("(Q (m 1))", 12, 0, "(m x)=x");

        // What couldn't be made isn't counted.
        after("(m 1)", 12, 12, "(m x)=(m x)");
        after("(m 1)", 0, 0, "(m x)=x");
        after("((m 1) (m))", 12, 1, "(m x)=x");
        after("((m 1) L (m 1))", 12, 1, "(m x)=x");
        after("((m 1) (n (1) ()))", 12, 1, "(m x)=x", "(n (x~) (y~))=((x y)~)");
        after("((m 1) (n (1 1 1 1 1 1 1 1 1 1 1 1 1 1 1 1)))", 12, 1, "(m x)=x",
                "(n x)=(x x x x)");
        after("((m 1) (n (((((1)))))))", 12, 1, "(m x)=x", "(n x)=((((((((x))))))))");
        after("((m 1) (n (((((1)))))))", 12, 2, "(m x)=x", "(n x)=(((((((x)))))))");
        // The result had too many marks, but all replacements were made.
        after("((c (c (1 1 1 1 1 1 1 1 1 1 1 1 1))) 1 1 1 1 1 1)", 12, 4, "(c x)=(x x x)");

        // Twelve replacements of the largest size.
        after("(m(" + "1".repeat(55) + "))", 12, 12, "(m x)=(m x 1 1)", "(m x _ _)=(m x 1 1)");
        after("(m(" + "1".repeat(55) + "))", 12, 0, "(m x)=(m x 1 1 1)");

        whatChangesIt();
        CHECKS.end();
    }

    private static void after(String text, int fuel, int due, String... rules) {
        MacroForge forge = Checks.forge(rules);
        String answer = Checks.expand(forge, text, fuel);
        CHECKS.same("replaced() behind " + text + ", which answered " + answer, due,
                forge.replaced());
    }

    private static void whatChangesIt() {
        MacroForge forge = Checks.forge("(m x)=x");
        Checks.expand(forge, "((m 1) (m 2))", 2);
        CHECKS.same("behind an expansion", 2, forge.replaced());
        Checks.expand(forge, "((m 1)", 2);
        CHECKS.same("no term is no expansion", 2, forge.replaced());
        Checks.expand(forge, "(m 1)", 13);
        CHECKS.same("wrong fuel is no expansion", 2, forge.replaced());
        Checks.rule(forge, "(n)=1");
        forge.forget('m');
        CHECKS.same("rules are no expansion", 2, forge.replaced());
        Checks.expand(forge, "1", 0);
        CHECKS.same("an expansion without a replacement", 0, forge.replaced());
    }
}
