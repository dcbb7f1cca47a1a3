/** Promise 1: no rules, an empty draft, no result. */
final class NewObjectTest {
    public static void main(String[] args) {
        Checks checks = new Checks();
        MacroForge forge = new MacroForge();
        checks.same("rules()", 0, forge.rules());
        checks.same("replaced()", 0, forge.replaced());
        checks.same("depth()", 0, forge.depth());
        checks.same("mark(0)", MacroForge.NONE, forge.mark(0));
        checks.same("rule() of an empty draft", Checks.ILLEGAL_ARGUMENT, Checks.rule(forge, ""));
        checks.same("expand() of an empty draft", Checks.ILLEGAL_ARGUMENT,
                Checks.expand(forge, "", 0));
        checks.same("no letter is a macro", "1 100 101 2",
                Checks.expand(new MacroForge(), "(a b)", 0));

        MacroForge one = Checks.forge("(a)=1");
        MacroForge other = new MacroForge();
        checks.same("objects share no rules", "1 0", one.rules() + " " + other.rules());
        checks.end();
    }
}
