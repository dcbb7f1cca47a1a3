/** Promise 8: mark. */
final class MarkTest {
    public static void main(String[] args) {
        Checks checks = new Checks();
        MacroForge forge = new MacroForge();
        Checks.expand(forge, "(L x (I x y 5))", 0);
        int[] due = {1, 3, 1, 4, 200, 124, 15, 2, 2};
        for (int k = 0; k < due.length; k++) {
            checks.same("mark(" + k + ")", due[k], forge.mark(k));
        }
        int[] outside = {-1, 9, 10, 149, 150, 151, 1000, Integer.MIN_VALUE, Integer.MAX_VALUE};
        for (int k : outside) {
            checks.same("mark(" + k + ")", MacroForge.NONE, forge.mark(k));
        }
        Checks.expand(forge, "7", 0);
        checks.same("a shorter result hides a longer one", "17", Checks.marks(forge));
        Checks.expand(forge, "(1 2 ())", 0);
        for (int k = -1; k < 5; k++) {
            checks.same("without a result mark(" + k + ")", MacroForge.NONE, forge.mark(k));
        }

        MacroForge full = Checks.forge("(c x)=(x x x)");
        Checks.expand(full, "((c (c (1 1 1 1 1 1 1 1 1 1 1 1 1))) 1 1 1 1 8)", 4);
        checks.same("mark 148 of 150", 18, full.mark(148));
        checks.same("mark 149 of 150", 2, full.mark(149));
        checks.same("mark 150 of 150", MacroForge.NONE, full.mark(150));
        checks.end();
    }
}
