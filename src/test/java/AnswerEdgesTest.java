/** Promises 7 to 9: replaced, mark and depth, a test a sentence. */
final class AnswerEdgesTest {
    private static final Checks CHECKS = new Checks();
    /** By this rule, the text behind it makes 143 marks with 4 replacements. */
    private static final String TRIPLE = "(c x)=(x x x)";
    private static final String WIDE = "(c(c(1111111111111)))";

    public static void main(String[] args) {
        CHECKS.sentences(AnswerEdgesTest::howManyReplacements, AnswerEdgesTest::latestExpansion,
                AnswerEdgesTest::alsoIfItThrew, AnswerEdgesTest::notMadeNotCounted,
                AnswerEdgesTest::markOfTheResult, AnswerEdgesTest::noneIfThereIsNone,
                AnswerEdgesTest::howDeep, AnswerEdgesTest::withoutLists);
        CHECKS.end();
    }

    private static void replacedThen(String text, int fuel, String due, int replaced,
            String... rules) {
        MacroForge forge = Checks.forge(rules);
        String answer = Checks.expand(forge, text, fuel);
        boolean fits = due.isEmpty() ? !answer.endsWith("Exception") : answer.equals(due);
        CHECKS.same(text + " answered " + answer + ", as is due", true, fits);
        CHECKS.same("replaced() behind " + text, replaced, forge.replaced());
    }

    private static void howManyReplacements() {
        CHECKS.sentence("How many replacements the latest expansion made");
        CHECKS.same("of a new object", 0, new MacroForge().replaced());
        for (int n = 0; n <= 12; n++) {
            replacedThen("(1" + "(m)".repeat(n) + ")", 12, "", n, "(m)=7");
            replacedThen("(1" + "(m)".repeat(n) + ")", n, "", n, "(m)=7");
            replacedThen("(n" + "1".repeat(n) + ")", 12, n == 12 ? Checks.UNSUPPORTED : "",
                    Math.min(n + 1, 12), "(n 1 x~)=(n x~)", "(n)=7");
        }
        replacedThen("(m (m (m 1)))", 12, "", 3, "(m x)=x");
        replacedThen("(m (m (m 1)))", 12, "", 1, "(m x)=7");
        replacedThen("(m (m 1))", 12, "", 3, "(m x)=(x x)");
        replacedThen("(Q (m 1))", 12, "", 0, "(m x)=x");
        replacedThen("(L m (m 1))", 12, "", 0, "(m x)=x");
        replacedThen("7", 12, "", 0, "(m x)=x");
        MacroForge forge = Checks.forge("(m)=7");
        for (int n : new int[] {3, 1, 0, 12, 2}) {
            Checks.expand(forge, "(1" + "(m)".repeat(n) + ")", 12);
            CHECKS.same("of one object, behind " + n, n, forge.replaced());
        }
    }

    private static void latestExpansion() {
        CHECKS.sentence("the latest expansion");
        MacroForge forge = Checks.forge("(m x)=x");
        Checks.expand(forge, "((m 1) (m 2))", 2);
        CHECKS.same("behind two", 2, forge.replaced());
        CHECKS.same("asked again", 2, forge.replaced());
        Checks.expand(forge, "((m 1) (m 2) (m 3))", 3);
        CHECKS.same("behind three", 3, forge.replaced());
        // What is refused with IllegalArgumentException expands nothing.
        Checks.expand(forge, "((m 1)", 2);
        CHECKS.same("behind no term", 3, forge.replaced());
        Checks.expand(forge, "(m 1)", 13);
        CHECKS.same("behind wrong fuel", 3, forge.replaced());
        Checks.rule(forge, "(n)=1");
        Checks.rule(forge, "(n");
        forge.forget('m');
        CHECKS.same("behind rules", 3, forge.replaced());
        Checks.expand(forge, "1", 0);
        CHECKS.same("behind none", 0, forge.replaced());
    }

    private static void alsoIfItThrew() {
        CHECKS.sentence("also if it threw IllegalStateException or UnsupportedOperationException");
        // The throw has nothing to do with a use.
        replacedThen("(m 1)", 12, Checks.ILLEGAL_STATE, 1, "(m x)=()");
        replacedThen("((m 1) (m 1) L (m 1))", 12, Checks.ILLEGAL_STATE, 2, "(m x)=x");
        replacedThen("(() (m 1))", 12, Checks.ILLEGAL_STATE, 0, "(m x)=x");
        replacedThen("((((((((m))))))))", 12, Checks.UNSUPPORTED, 1, "(m)=((((((1))))))");
        replacedThen("(" + WIDE + "111111)", 12, Checks.UNSUPPORTED, 4, TRIPLE);
        // It starts from 0 for each expansion that throws.
        MacroForge forge = Checks.forge("(m x)=x");
        Checks.expand(forge, "((m 1) (m 2))", 2);
        Checks.expand(forge, "((m 1) ())", 2);
        CHECKS.same("behind IllegalStateException", 1, forge.replaced());
        Checks.expand(forge, "(m (m 1))", 0);
        CHECKS.same("behind UnsupportedOperationException", 0, forge.replaced());
    }

    private static void notMadeNotCounted() {
        CHECKS.sentence("(then the one that couldn't be made isn't counted).");
        // No replacement is left.
        for (int fuel = 0; fuel <= 12; fuel++) {
            replacedThen("(m 1)", fuel, Checks.UNSUPPORTED, fuel, "(m x)=(m x)");
        }
        // No rule matches, or MANYs matched unequally many.
        replacedThen("(m)", 12, Checks.ILLEGAL_STATE, 0, "(m x)=x");
        replacedThen("((m 1) (m) (m 1))", 12, Checks.ILLEGAL_STATE, 1, "(m x)=x");
        replacedThen("((m 1) (n (1) ()))", 12, Checks.ILLEGAL_STATE, 1, "(m x)=x",
                "(n (x~) (y~))=((x y)~)");
        // It would be too large, or too deep.
        replacedThen("((m 1) (n (1111111111111)))", 12, "", 2, "(m x)=x", "(n x)=(000xxxx)");
        replacedThen("((m 1) (n (1111111111111)))", 12, Checks.UNSUPPORTED, 1, "(m x)=x",
                "(n x)=(0000xxxx)");
        replacedThen("((m 1) (n ((((1))))))", 12, "", 2, "(m x)=x", "(n x)=(Q (((((((x))))))))");
        replacedThen("((m 1) (n (((((1)))))))", 12, Checks.UNSUPPORTED, 1, "(m x)=x",
                "(n x)=(Q (((((((x))))))))");
        // An expression is too deep, so that its use is not replaced.
        replacedThen("(((((m (n))))))", 12, "", 2, "(m x)=(((((((x)))))))", "(n)=1");
        replacedThen("((((((m (n)))))))", 12, Checks.UNSUPPORTED, 1, "(m x)=(((((((x)))))))",
                "(n)=1");
    }

    private static void markOfTheResult() {
        CHECKS.sentence("Mark k of the result");
        MacroForge forge = new MacroForge();
        Checks.expand(forge, "(L x (I x y (Q (L 5))))", 0);
        int[] due = {1, 3, 1, 4, 200, 124, 1, 5, 1, -1, 15, 2, 2, 2, 2};
        for (int k = due.length - 1; k >= 0; k--) {
            CHECKS.same("mark(" + k + ")", due[k], forge.mark(k));
        }
        MacroForge full = Checks.forge(TRIPLE);
        Checks.expand(full, "(9" + WIDE + "1118)", 4);
        CHECKS.same("marks 0, 1, 148 and 149 of 150", "1 19 18 2", full.mark(0) + " "
                + full.mark(1) + " " + full.mark(148) + " " + full.mark(149));
    }

    private static void noneIfThereIsNone() {
        CHECKS.sentence("NONE if there is none.");
        int[] outside = {Integer.MIN_VALUE, -150, -2, -1, 3, 4, 100, 149, 150, 151, 1 << 30,
            Integer.MAX_VALUE};
        MacroForge forge = new MacroForge();
        for (int k : outside) {
            CHECKS.same("mark(" + k + ") of a new object", -99, forge.mark(k));
        }
        Checks.expand(forge, "(1 2 3 4 5 6)", 0);
        Checks.expand(forge, "(7)", 0);
        CHECKS.same("mark(2)", 2, forge.mark(2));
        for (int k : outside) {
            CHECKS.same("mark(" + k + ") of a result with 3", -99, forge.mark(k));
        }
        Checks.expand(forge, "(7 ())", 0);
        for (int k = -1; k <= 3; k++) {
            CHECKS.same("mark(" + k + ") without a result", -99, forge.mark(k));
        }
        MacroForge full = Checks.forge(TRIPLE);
        Checks.expand(full, "(" + WIDE + "11111)", 4);
        CHECKS.same("mark(149) of 150", 2, full.mark(149));
        CHECKS.same("mark(150) of 150", -99, full.mark(150));
        CHECKS.same("mark(-1) of 150", -99, full.mark(-1));
    }

    private static void deepThen(String text, int due, String... rules) {
        MacroForge forge = Checks.forge(rules);
        String answer = Checks.expand(forge, text, 12);
        CHECKS.same("depth() behind " + text + ", which answered " + answer, due, forge.depth());
    }

    private static void howDeep() {
        CHECKS.sentence("How deep the lists in the result lie at most");
        for (int lists = 1; lists <= 8; lists++) {
            deepThen(Checks.nest(lists, "1"), lists);
            deepThen("(Q " + Checks.nest(lists - 1, "1") + ")", lists);
        }
        deepThen("((1)(2)(3))", 2);
        deepThen("((((1))) 2 (3))", 4);
        deepThen("((3) 2 (((1))))", 4);
        deepThen("(L x (L y (I 1 2 (x))))", 4);
        deepThen("(Q (L (L (L))))", 4);
        // A use is no list of the result; what comes for it may be.
        deepThen("(m 1)", 0, "(m x)=x");
        deepThen("((m 1))", 1, "(m x)=x");
        deepThen("(m (m (m (1))))", 1, "(m x)=x");
        deepThen("(m 1)", 8, "(m x)=((((((((x))))))))");
        deepThen("((((m))))", 11, "(m)=((((((((1))))))))");
        deepThen("(((((m)))))", 12, "(m)=((((((((Q 1))))))))");
        // As deep as can be: a use 12 deep is replaced by lists that are 12 deep.
        deepThen("((((((m))))))", 23, "(m)=(n ((((1)))))", "(n x)=(((((((o x)))))))",
                "(o x)=(Q (((((((x))))))))");
    }

    private static void withoutLists() {
        CHECKS.sentence("0 without lists.");
        CHECKS.same("of a new object", 0, new MacroForge().depth());
        deepThen("1", 0);
        deepThen("a", 0);
        deepThen("(m (((1))))", 0, "(m x)=7");
        // Without a result there are none.
        deepThen("((1) ())", 0);
        deepThen("((1) (m))", 0, "(m x)=x");
        deepThen("((1) (m 1))", 0, "(m x)=(m x)");
        // One behind a result that had some.
        MacroForge forge = new MacroForge();
        Checks.expand(forge, "((1))", 0);
        CHECKS.same("with lists", 2, forge.depth());
        Checks.expand(forge, "((1)", 0);
        CHECKS.same("behind no term", 2, forge.depth());
        Checks.expand(forge, "1", 0);
        CHECKS.same("without", 0, forge.depth());
        Checks.expand(forge, "(1)", 0);
        CHECKS.same("with one", 1, forge.depth());
        Checks.expand(forge, "((L))", 0);
        CHECKS.same("behind what is malformed", 0, forge.depth());
    }
}
