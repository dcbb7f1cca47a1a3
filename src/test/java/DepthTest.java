/** Promise 9: depth. */
final class DepthTest {
    private static final Checks CHECKS = new Checks();

    public static void main(String[] args) {
        deep("7", 0);
        deep("a", 0);
        deep("(a)", 1);
        deep("(a b c)", 1);
        deep("((a) (b))", 2);
        deep("((a) ((b) c) d)", 3);
        deep("(((a)) b)", 3);
        deep("((((((((a))))))))", 8);
        deep("(L x x)", 1);
        deep("(I 1 (L x (x)) 2)", 3);
        deep("(Q ())", 2);
        deep("(Q (a (L (1))))", 4);
        // A use leaves no list of its own.
        deep("(m 1)", 0, "(m x)=x");
        deep("((m 1))", 1, "(m x)=x");
        deep("(m (1))", 1, "(m x)=x");
        deep("(((((m (((1))))))))", 15, "(m x)=((((((((Q x))))))))");
        // Without a result there are no lists.
        deep("(a ())", 0);
        deep("((a) (m))", 0, "(m x)=x");

        MacroForge forge = new MacroForge();
        Checks.expand(forge, "((1))", 0);
        Checks.expand(forge, "((1)", 0);
        CHECKS.same("what is no term leaves it", 2, forge.depth());
        Checks.expand(forge, "L", 0);
        CHECKS.same("what is malformed doesn't", 0, forge.depth());
        CHECKS.end();
    }

    private static void deep(String text, int due, String... rules) {
        MacroForge forge = Checks.forge(rules);
        String answer = Checks.expand(forge, text, 12);
        CHECKS.same("depth() behind " + text + ", which answered " + answer, due, forge.depth());
    }
}
