/** Promise 4: forget; and promise 5: rules. */
final class ForgetTest {
    public static void main(String[] args) {
        Checks checks = new Checks();
        MacroForge forge = Checks.forge("(a)=1", "(b)=2", "(a x)=3", "(c)=4", "(b 1)=5", "(b x)=6",
                "(a 1)=7");
        checks.same("rules()", 7, forge.rules());
        checks.same("forget of none", 0, forge.forget('d'));
        checks.same("forget of no name", "0 0 0 0", forge.forget('A') + " " + forge.forget('(')
                + " " + forge.forget((char) 0) + " " + forge.forget((char) 65535));
        checks.same("rules() still", 7, forge.rules());
        checks.same("forget a", 3, forge.forget('a'));
        checks.same("rules() then", 4, forge.rules());
        checks.same("forget a again", 0, forge.forget('a'));
        checks.same("a is no macro any more", "1 100 2", Checks.expand(forge, "(a)", 0));
        checks.same("the order of the others stays", "15 16 12 14",
                Checks.expand(forge, "(b 1)", 1) + " " + Checks.expand(forge, "(b 2)", 1) + " "
                        + Checks.expand(forge, "(b)", 1) + " " + Checks.expand(forge, "(c)", 1));
        checks.same("a rule behind them", "3", String.valueOf(forge.forget('b')));
        checks.same("b is told anew", "1", Checks.rule(forge, "(b)=9"));
        checks.same("b anew", "19", Checks.expand(forge, "(b)", 1));
        checks.same("b's old rules are gone", Checks.ILLEGAL_STATE,
                Checks.expand(forge, "(b 1)", 1));
        checks.same("rules() at last", 2, forge.rules());

        leavesTheRest(checks);
        checks.end();
    }

    private static void leavesTheRest(Checks checks) {
        MacroForge forge = Checks.forge("(a)=7");
        Checks.expand(forge, "(a)", 1);
        Checks.type(forge, "(b");
        forge.forget('a');
        checks.same("the result stays", "17 1 0", Checks.marks(forge) + " " + forge.replaced() + " "
                + forge.depth());
        checks.same("the draft stays", "1 101 2", Checks.expand(forge, ")", 0));
    }
}
