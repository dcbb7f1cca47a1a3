/** Promise 6: expand without rules: terms, core forms and what binds. */
final class ExpandTest {
    private static final Checks CHECKS = new Checks();

    public static void main(String[] args) {
        terms();
        noTerms();
        coreForms();
        malformed();
        binding();
        marksAreBounded();
        fuel();
        whatStays();
        CHECKS.end();
    }

    private static void is(String text, String due) {
        CHECKS.same("expand " + text, due, Checks.expand(new MacroForge(), text, 0));
    }

    private static void terms() {
        is("a", "100");
        is("z", "125");
        is("0", "10");
        is("9", "19");
        is("  7  ", "17");
        is("(a)", "1 100 2");
        is("(1 2 3)", "1 11 12 13 2");
        is("((a)(b c))", "1 1 100 2 1 101 102 2 2");
        is("( a( b ) )", "1 100 1 101 2 2");
        is("(ab)", "1 100 101 2");
        is("((((((((a))))))))", "1 1 1 1 1 1 1 1 100 2 2 2 2 2 2 2 2");
    }

    private static void noTerms() {
        for (String text : new String[] {"", " ", "(", ")", "(a", "a)", "a b", "12", "()()", "(a))",
            "_", "(_)", "(a~)", "a~", "~", "=", "a=b", "(a)=1", "A", "(B)", "+", "(a . b)",
            "(((((((((a)))))))))", "((((((((()))))))))", "(Q ((((((((a)))))))))"}) {
            is(text, Checks.ILLEGAL_ARGUMENT);
        }
    }

    private static void coreForms() {
        is("(L x x)", "1 3 200 2");
        is("(L x 1)", "1 3 11 2");
        is("(I 1 a (b))", "1 4 11 100 1 101 2 2");
        is("(Q a)", "1 5 100 2");
        is("(Q 3)", "1 5 13 2");
        is("(Q L)", "1 5 -1 2");
        is("(Q I)", "1 5 -2 2");
        is("(Q Q)", "1 5 -3 2");
        is("(Q ())", "1 5 1 2 2");
        is("(Q (L x (I 1 (Q x)) ()))", "1 5 1 -1 123 1 -2 11 1 -3 123 2 2 1 2 2 2");
        is("(L x (Q x))", "1 3 1 5 123 2 2");
        is("((L x x) 1)", "1 1 3 200 2 11 2");
    }

    private static void malformed() {
        for (String text : new String[] {"L", "I", "Q", "()", "(())", "(a ())", "(a L)", "(a (I))",
            "(L)", "(L x)", "(L x x x)", "(L 1 x)", "(L (x) x)", "(L () x)", "(L L x)", "(L Q x)",
            "(L x ())", "(I)", "(I 1 2)", "(I 1 2 3 4)", "(I 1 2 L)", "(Q)", "(Q a b)",
            "(L x (I x x))", "(1 Q)", "((Q))"}) {
            is(text, Checks.ILLEGAL_STATE);
        }
    }

    private static void binding() {
        is("(L x (L y (x y z)))", "1 3 1 3 1 200 201 125 2 2 2");
        is("(L x (L x x))", "1 3 1 3 201 2 2");
        is("(L x (L y (L x (x y))))", "1 3 1 3 1 3 1 202 201 2 2 2 2");
        is("((L x x) x)", "1 1 3 200 2 123 2");
        is("((L x x) (L y y))", "1 1 3 200 2 1 3 200 2 2");
        is("(L x ((L y y) (L z (x z)) y))",
                "1 3 1 1 3 201 2 1 3 1 200 201 2 2 124 2 2");
        is("(L a(L b(L c(L d(L e(L f(L g(a g h))))))))",
                "1 3 1 3 1 3 1 3 1 3 1 3 1 3 1 200 206 107 2 2 2 2 2 2 2 2");
    }

    /** 150 marks are a result; what is found before the 151st one is thrown before it. */
    private static void marksAreBounded() {
        // Nine lists of thirteen numerals in three lists in one: 143 marks.
        String wide = "(c(c(1111111111111)))";
        bounded(wide, "143");
        bounded("(" + wide + "11111)", "150");
        bounded("(" + wide + "111111)", Checks.UNSUPPORTED);
        bounded("(" + wide + "(111))", "150");
        bounded("(" + wide + "(1111))", Checks.UNSUPPORTED);
        bounded("(" + wide + "(Qa)1)", "150");
        bounded("(" + wide + "(Q(a)))", Checks.UNSUPPORTED);
        bounded("(" + wide + "11111L)", Checks.ILLEGAL_STATE);
        bounded("(" + wide + "111111L)", Checks.ILLEGAL_STATE);
        bounded("(" + wide + "111111())", Checks.ILLEGAL_STATE);
        bounded("(" + wide + "1111111L)", Checks.UNSUPPORTED);
    }

    private static void bounded(String text, String due) {
        String answer = Checks.expand(Checks.forge("(c x)=(x x x)"), text, 4);
        CHECKS.same("marks of " + text, due, answer.endsWith("Exception") ? answer
                : String.valueOf(answer.split(" ").length));
    }

    private static void fuel() {
        for (int fuel = -3; fuel <= 15; fuel++) {
            boolean fits = fuel >= 0 && fuel <= 12;
            CHECKS.same("fuel " + fuel, fits ? "17" : Checks.ILLEGAL_ARGUMENT,
                    Checks.expand(new MacroForge(), "7", fuel));
        }
        CHECKS.same("least fuel", Checks.ILLEGAL_ARGUMENT,
                Checks.expand(new MacroForge(), "7", Integer.MIN_VALUE));
        CHECKS.same("most fuel", Checks.ILLEGAL_ARGUMENT,
                Checks.expand(new MacroForge(), "7", Integer.MAX_VALUE));
        CHECKS.same("fuel is looked at before the term is expanded", Checks.ILLEGAL_ARGUMENT,
                Checks.expand(new MacroForge(), "()", 13));
    }

    private static void whatStays() {
        MacroForge forge = Checks.forge("(a)=((7))");
        Checks.expand(forge, "(a)", 1);
        CHECKS.same("wrong fuel", Checks.ILLEGAL_ARGUMENT, Checks.expand(forge, "8", 13));
        CHECKS.same("the result stays", "1 1 17 2 2", Checks.marks(forge));
        CHECKS.same("the draft is empty", Checks.ILLEGAL_ARGUMENT, Checks.expand(forge, "", 1));
        CHECKS.same("no term", Checks.ILLEGAL_ARGUMENT, Checks.expand(forge, "(8", 1));
        CHECKS.same("all stays", "1 1 17 2 2 | 2 1", Checks.marks(forge) + " | " + forge.depth()
                + " " + forge.replaced());
        CHECKS.same("malformed", Checks.ILLEGAL_STATE, Checks.expand(forge, "(1 ())", 1));
        CHECKS.same("no result then", " | 0 0", Checks.marks(forge) + " | " + forge.depth() + " "
                + forge.replaced());
        Checks.expand(forge, "(a)", 1);
        CHECKS.same("no fuel", Checks.UNSUPPORTED, Checks.expand(forge, "(1 (a))", 0));
        CHECKS.same("no result then", " | 0 0", Checks.marks(forge) + " | " + forge.depth() + " "
                + forge.replaced());
        CHECKS.same("the draft is empty behind all", "19", Checks.expand(forge, "9", 0));
        CHECKS.same("the rules stay", 1, forge.rules());
    }
}
