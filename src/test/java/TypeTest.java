/** Promise 2: type. */
final class TypeTest {
    public static void main(String[] args) {
        Checks checks = new Checks();
        codes(checks);
        sixty(checks);
        refusedLeaveNothing(checks);
        checks.end();
    }

    private static void codes(Checks checks) {
        for (int code = 0; code < 65536; code++) {
            boolean due = code >= 32 && code <= 126;
            checks.same("type of code " + code, due, new MacroForge().type((char) code));
        }
    }

    private static void sixty(Checks checks) {
        MacroForge forge = new MacroForge();
        for (int n = 0; n < 60; n++) {
            checks.same("character " + n, true, forge.type(n == 59 ? '7' : ' '));
        }
        checks.same("character 61", false, forge.type('7'));
        checks.same("blank 61", false, forge.type(' '));
        checks.same("60 characters are a text", "17", Checks.expand(forge, "", 0));
        for (int n = 0; n < 60; n++) {
            checks.same("character " + n + " behind expand()", true, forge.type('1'));
        }
        checks.same("full again", false, forge.type('1'));
        checks.same("no rule", Checks.ILLEGAL_ARGUMENT, Checks.rule(forge, ""));
        for (int n = 0; n < 60; n++) {
            checks.same("character " + n + " behind rule()", true, forge.type('1'));
        }
        checks.same("full once more", false, forge.type('1'));
    }

    private static void refusedLeaveNothing(Checks checks) {
        MacroForge forge = new MacroForge();
        forge.type('(');
        forge.type((char) 31);
        forge.type((char) 127);
        forge.type('a');
        forge.type((char) ('b' + 256));
        forge.type(')');
        checks.same("the draft", "1 100 2", Checks.expand(forge, "", 0));
    }
}
