/** Promise 6: expand with rules: how uses are matched and replaced, and what is thrown there. */
final class ReplaceTest {
    private static final Checks CHECKS = new Checks();

    public static void main(String[] args) {
        patterns();
        lists();
        manysInPatterns();
        firstRule();
        templates();
        copies();
        unequalManys();
        newNames();
        uses();
        order();
        fuel();
        sizes();
        depths();
        orderAtAUse();
        CHECKS.end();
    }

    private static void is(String text, int fuel, String due, String... rules) {
        CHECKS.same("expand " + text + " by " + String.join(" ", rules), due,
                Checks.expand(Checks.forge(rules), text, fuel));
    }

    private static void matches(String pattern, String use) {
        is(use, 1, "11", pattern + "=1");
    }

    private static void fails(String pattern, String use) {
        is(use, 1, Checks.ILLEGAL_STATE, pattern + "=1");
    }

    private static void patterns() {
        matches("(m)", "(m)");
        fails("(m)", "(m 1)");
        for (String any : new String[] {"1", "a", "m", "L", "I", "Q", "()", "(a (L))"}) {
            matches("(m x)", "(m " + any + ")");
            matches("(m _)", "(m " + any + ")");
        }
        fails("(m x)", "(m)");
        fails("(m x)", "(m 1 2)");
        matches("(m 1)", "(m 1)");
        fails("(m 1)", "(m 2)");
        fails("(m 1)", "(m a)");
        fails("(m 1)", "(m (1))");
        matches("(m L I Q)", "(m L I Q)");
        fails("(m L)", "(m Q)");
        fails("(m L)", "(m l)");
        fails("(m L)", "(m (L))");
    }

    private static void lists() {
        matches("(m ())", "(m ())");
        fails("(m ())", "(m (1))");
        fails("(m ())", "(m 1)");
        fails("(m ())", "(m a)");
        matches("(m (x (1 y)))", "(m (a (1 b)))");
        fails("(m (x (1 y)))", "(m (a (2 b)))");
        fails("(m (x (1 y)))", "(m (a (1 b) c))");
        fails("(m (x (1 y)))", "(m (a 1))");
        fails("(m (x))", "(m ())");
        // The first item of a list in a pattern is a variable, not a macro.
        matches("(m (m x))", "(m (1 2))");
    }

    private static void manysInPatterns() {
        matches("(m x~)", "(m)");
        matches("(m x~)", "(m 1 L (a))");
        matches("(m x y~)", "(m 1)");
        fails("(m x y~)", "(m)");
        matches("(m _~)", "(m 1 2)");
        matches("(m 1~)", "(m 1 1 1)");
        fails("(m 1~)", "(m 1 1 2)");
        matches("(m (x 1)~)", "(m (a 1) (b 1))");
        fails("(m (x 1)~)", "(m (a 1) (b 2))");
        fails("(m (x 1)~)", "(m (a 1) b)");
        matches("(m (x~) y~)", "(m () 1)");
        matches("(m (x (y z~)) _)", "(m (1 (2)) 3)");
        fails("(m (x (y z~)) _)", "(m (1 ()) 3)");
    }

    private static void firstRule() {
        String[] rules = {"(m 1)=7", "(m x)=8", "(m 2)=9", "(m x y)=6", "(n x)=5"};
        is("(m 1)", 1, "17", rules);
        is("(m 2)", 1, "18", rules);
        is("(m 2 2)", 1, "16", rules);
        is("(n 1)", 1, "15", rules);
        is("(m)", 1, Checks.ILLEGAL_STATE, rules);
        // What a rule that doesn't match has matched so far leaves nothing.
        is("(m 3 4 5)", 1, "1 113 13 14 15 2", "(m x~)=(n x~)");
        is("(m 3 4 5)", 1, "1 113 13 14 15 2", "(m x (y) z)=1", "(m (x))=2", "(m y x z)=(n y x z)");
        is("(m 3 4 5)", 1, "1 13 14 15 2", "(m x y 6~)=1", "(m x y~)=(x y~)");
        is("(m (3 4) 5)", 1, "1 13 14 2", "(m (x~) 6)=1", "(m (x~) 5)=(x~)");
    }

    private static void templates() {
        is("(m)", 1, "117", "(m)=r");
        is("(m)", 1, Checks.ILLEGAL_STATE, "(m)=L");
        is("(m)", 1, Checks.ILLEGAL_STATE, "(m)=()");
        is("(m (1 2))", 1, "1 11 12 2", "(m x)=x");
        is("(m 1 2)", 1, "1 12 1 11 2 12 2", "(m x y)=(y (x) y)");
        is("(m I 1)", 1, "1 4 11 11 11 2", "(m x y)=(x y y y)");
        is("(m Q L)", 1, "1 5 -1 2", "(m x y)=(x y)");
        is("(m a)", 1, "1 3 1 200 101 2 2", "(m x)=(L x (x b))");
        is("(m 1)", 1, Checks.ILLEGAL_STATE, "(m x)=(L x 2)");
        is("(m (1))", 1, "1 5 1 11 2 2", "(m x)=(Q x)");
        // In the template, a variable with the macro's letter is the variable.
        is("(m 1)", 12, "1 11 2", "(m m)=(m)");
    }

    private static void copies() {
        is("(m 1 2 3)", 1, "1 11 12 13 2", "(m x~)=(x~)");
        is("(m)", 1, Checks.ILLEGAL_STATE, "(m x~)=(x~)");
        is("(m)", 1, "1 10 2", "(m x~)=(x~ 0 x~)");
        is("(m 1 2)", 1, "1 11 12 10 11 12 2", "(m x~)=(x~ 0 x~)");
        is("(m 7 1 2)", 1, "1 1 11 17 2 1 12 17 2 2", "(m y x~)=((x y)~)");
        is("(m 1 2)", 1, "1 1 11 11 2 1 12 12 2 2", "(m x~)=((x x)~)");
        is("(m (1 2) (3 4))", 1, "1 1 11 13 2 1 12 14 2 2", "(m (x y)~)=((x~) (y~))");
        is("(m (1 2) (3 4))", 1, "1 1 12 11 2 1 14 13 2 2", "(m (x y)~)=((y x)~)");
        is("(m (1 2) (3 4))", 1, "1 1 11 13 2 1 12 14 2 2", "(m (x~) (y~))=((x y)~)");
        is("(m (1 2 3) 4)", 1, "1 11 12 13 14 2", "(m (x~) y~)=(x~ y~)");
        is("(m ((1 (2)) (3 (4))))", 1, "1 1 12 11 2 1 14 13 2 2", "(m ((x (y))~))=((y x)~)");
        // New names are the same in all copies of one replacement.
        is("(m 1 2)", 1, "1 3 1 1 200 11 2 1 200 12 2 2 2", "(m x~)=(L t ((t x)~))");
    }

    private static void unequalManys() {
        is("(m (1 2) (3))", 1, Checks.ILLEGAL_STATE, "(m (x~) (y~))=((x y)~)");
        is("(m () (3))", 1, Checks.ILLEGAL_STATE, "(m (x~) (y~))=(1 (x y)~)");
        is("(m (3) ())", 1, Checks.ILLEGAL_STATE, "(m (x~) (y~))=(1 (x y)~)");
        is("(m () ())", 1, "1 11 2", "(m (x~) (y~))=(1 (x y)~)");
        is("(m (1 2) (3))", 1, "1 11 12 13 2", "(m (x~) (y~))=(x~ y~)");
        // The first rule that matches is the one: no later rule is tried.
        is("(m (1 2) (3))", 1, Checks.ILLEGAL_STATE, "(m (x~) (y~))=((x y)~)", "(m _~)=7");
        is("(m (1) (2) (3 4))", 1, Checks.ILLEGAL_STATE, "(m (x~)(y~)(z~))=((x y)~ (x z)~)");
        is("(m (1) (2) (3 4))", 1, "1 1 11 12 2 13 14 2", "(m (x~)(y~)(z~))=((x y)~ z~)");
    }

    private static void newNames() {
        is("(L t (o 0 t))", 1, "1 3 1 1 3 1 4 201 201 200 2 2 10 2 2",
                "(o x y)=((L t (I t t y)) x)");
        is("(m t)", 1, "1 3 119 2", "(m x)=(L t x)");
        is("(m t)", 1, "1 3 1 200 119 2 2", "(m x)=(L t (t x))");
        is("(L t (m 1))", 1, "1 3 1 119 11 2 2", "(m x)=(t x)");
        is("(m t)", 2, "1 3 1 3 1 200 201 119 2 2 2", "(m x)=(L t (n t x))",
                "(n x y)=(L t (x t y))");
        // Both names of one replacement meet, though the second is used in what comes.
        is("(m (n t))", 2, "1 3 1 200 1 3 1 201 119 2 2 2 2", "(m x)=(L t (t x))",
                "(n x)=(L t (t x))");
        is("(m m t)", 2, "1 3 1 3 1 200 201 119 2 2 2", "(m k x)=(L t (n t x))",
                "(n y z)=(L t (y t z))");
        // Two replacements by one rule bring in names of their own.
        is("(m (m t))", 2, "1 3 1 200 1 3 1 201 119 2 2 2 2", "(m x)=(L t (t x))");
        is("(L t (Q (t)))", 0, "1 3 1 5 1 119 2 2 2");
        is("(m t)", 1, "1 5 1 119 119 2 2", "(m x)=(Q (t x))");
        // Numbers begin anew with each expansion.
        MacroForge forge = Checks.forge("(m x)=(L t (t x))");
        for (int n = 0; n < 3; n++) {
            CHECKS.same("expansion " + n, "1 3 1 200 119 2 2", Checks.expand(forge, "(m t)", 1));
        }
    }

    private static void uses() {
        is("m", 0, "112", "(m)=1");
        is("(1 m)", 0, "1 11 112 2", "(m)=1");
        is("(L m (m 1))", 0, "1 3 1 200 11 2 2", "(m)=1");
        is("((L m m) (m))", 1, "1 1 3 200 2 11 2", "(m)=1");
        is("(Q (m))", 0, "1 5 1 112 2 2", "(m)=1");
        is("((m))", 1, "1 11 2", "(m)=1");
        // A new name is a use although the letter is bound, if it is bound without a mark.
        is("(L n (m))", 2, "1 3 12 2", "(m)=(n)", "(n)=2");
        is("(m n)", 1, "1 3 1 200 2 2", "(m x)=(L x (x))", "(n)=2");
        is("(m n)", 2, "1 3 12 2", "(m x)=(L x (n))", "(n)=2");
        is("(m)", 1, "1 3 1 200 2 2", "(m)=(L n (n))", "(n)=2");
        // What stands for a variable can be the name of a use.
        is("(m n)", 2, "12", "(m x)=(x)", "(n)=2");
        is("(m (n))", 2, "12", "(m x)=x", "(n)=2");
        is("(I (m) (L m m) m)", 1, "1 4 11 1 3 200 2 112 2", "(m)=1");
    }

    private static void order() {
        is("(m (n))", 1, "17", "(m x)=7");
        is("(m (n))", 1, "1 5 1 113 2 2", "(m x)=(Q x)", "(n)=2");
        is("(() (m))", 0, Checks.ILLEGAL_STATE, "(m)=1");
        is("((m) ())", 0, Checks.UNSUPPORTED, "(m)=1");
        is("((m) ())", 1, Checks.ILLEGAL_STATE, "(m)=1");
        is("(I (m) 1)", 0, Checks.ILLEGAL_STATE, "(m)=1");
        is("(L (m) (m))", 0, Checks.ILLEGAL_STATE, "(m)=1");
    }

    private static void fuel() {
        is("(m 1)", 12, Checks.UNSUPPORTED, "(m x)=(m x)");
        is("(m)", 0, Checks.UNSUPPORTED, "(m)=1");
        is("((m)(m)(m))", 3, "1 11 11 11 2", "(m)=1");
        is("((m)(m)(m))", 2, Checks.UNSUPPORTED, "(m)=1");
        is("(m 1 2 3)", 4, "1 4 11 1 4 12 1 4 13 1 100 2 10 2 10 2 10 2", "(m)=(a)",
                "(m x y~)=(I x (m y~) 0)");
        is("((m)(m)(m)(m)(m)(m)(m)(m)(m)(m)(m)(m))", 12,
                "1 11 11 11 11 11 11 11 11 11 11 11 11 2", "(m)=1");
        is("((m)(m)(m)(m)(m)(m)(m)(m)(m)(m)(m)(m)(m))", 12, Checks.UNSUPPORTED, "(m)=1");
    }

    /** 60 names, numerals, keywords and lists are a term, 61 are not. */
    private static void sizes() {
        String four = "(m x)=(Q (x x x x))";
        // The template has 3 nodes beside four times what x matched.
        is("(m (1 1 1 1 1 1 1 1 1 1 1 1 1))", 1, marks(4, 13, ""), four);
        is("(m (1 1 1 1 1 1 1 1 1 1 1 1 1 1))", 1, Checks.UNSUPPORTED, four);
        is("(m (1 1 1 1 1 1 1 1 1 1 1 1 1))", 1, marks(4, 13, " 19"), "(m x)=(Q (x x x x 9))");
        is("(m (1 1 1 1 1 1 1 1 1 1 1 1 1))", 1, Checks.UNSUPPORTED, "(m x)=(Q (x x x x 9 9))");
        is("(m (1 1 1 1 1 1 1 1 1 1 1 1 1))", 1, Checks.UNSUPPORTED, "(m x)=(Q (x x x x (9)))");
        // The text and what stands round a use don't count.
        is("(1 1 1 1 1 1 1 (m (1 1 1 1 1 1 1 1 1 1 1 1 1)))", 1,
                "1 11 11 11 11 11 11 11 " + marks(4, 13, " 19") + " 2", "(m x)=(Q (x x x x 9))");
    }

    private static String marks(int lists, int numerals, String last) {
        String list = " 1" + " 11".repeat(numerals) + " 2";
        return "1 5 1" + list.repeat(lists) + last + " 2 2";
    }

    private static void depths() {
        // A replacement's lists are 12 deep: 5 of the template round 7 of the use.
        is("(m (((((((1))))))))", 1, "1 5 " + nest(11, "11") + " 2", "(m x)=(Q ((((x)))))");
        is("(m ((((((())))))))", 1, "1 5 " + nest(10, "1 2") + " 2", "(m x)=(Q ((((x)))))");
        is("(m (((((((1))))))))", 1, Checks.UNSUPPORTED, "(m x)=(Q (((((x))))))");
        is("(m ((((((())))))))", 1, Checks.UNSUPPORTED, "(m x)=(Q (((((x))))))");
        is("(m (((((((1))))))))", 1, Checks.UNSUPPORTED, "(m x)=(Q (1 ((((x 1) 1) 1) 1) 1))");

        // An expression is 12 deep: what lies in 11 lists.
        is("(m ((((((1)))))))", 1, nest(11, "11"), "(m x)=(((((x)))))");
        is("(m (((((((1))))))))", 1, Checks.UNSUPPORTED, "(m x)=(((((x)))))");
        is("(m (((((((Q 1))))))))", 1, nest(11, "1 5 11 2"), "(m x)=(((((x)))))");
        is("(m (((((((L y y))))))))", 1, Checks.UNSUPPORTED, "(m x)=(((((x)))))");
        is("(m (((((((I 1 1 1))))))))", 1, Checks.UNSUPPORTED, "(m x)=(((((x)))))");
        is("(m ((((((I 1 1 1)))))))", 1, nest(10, "1 4 11 11 11 2"), "(m x)=(((((x)))))");
        is("(m ((((((L y y)))))))", 1, nest(10, "1 3 200 2"), "(m x)=(((((x)))))");
        // It is looked at before all else of it, but not before what is outside of it.
        is("(m (((((((L))))))))", 1, Checks.ILLEGAL_STATE, "(m x)=(((((x)))))");
        is("(m (((((((1 L))))))))", 1, Checks.UNSUPPORTED, "(m x)=(((((x)))))");
        is("(m (((((((L 1 L))))))))", 1, Checks.ILLEGAL_STATE, "(m x)=(((((x)))))");
        is("(m ((((((())))))))", 1, Checks.ILLEGAL_STATE, "(m x)=(((((x)))))");
        is("(m (((((((n))))))))", 1, Checks.UNSUPPORTED, "(m x)=(((((x)))))", "(n)=1");
        is("(m (((((((n))))))))", 2, nest(11, "11"), "(m x)=(((((x)))))", "(n)=1");
        // What comes for a use is as deep as the use; what Q has is no expression.
        is("(((((m (((1))))))))", 1, nest(10, "1 5 " + nest(3, "11") + " 2"),
                "(m x)=(((((((Q x)))))))");
        is("(((((m (((1))))))))", 1, nest(11, "1 5 " + nest(3, "11") + " 2"),
                "(m x)=((((((((Q x))))))))");
        is("((((((m ((1))))))))", 1, Checks.UNSUPPORTED, "(m x)=((((((((Q x))))))))");
        is("((((((m ((1))))))))", 1, nest(11, "1 5 " + nest(2, "11") + " 2"),
                "(m x)=(((((((Q x)))))))");
    }

    private static String nest(int lists, String inner) {
        return "1 ".repeat(lists) + inner + " 2".repeat(lists);
    }

    private static void orderAtAUse() {
        String large = "(1 1 1 1 1 1 1 1 1 1 1 1 1)";
        is("(m 1)", 0, Checks.UNSUPPORTED, "(m)=1");
        is("(m 1)", 1, Checks.ILLEGAL_STATE, "(m)=1");
        is("(m (1) ())", 0, Checks.UNSUPPORTED, "(m (x~) (y~))=((x y)~)");
        is("(m (1) () " + large + ")", 1, Checks.ILLEGAL_STATE,
                "(m (x~) (y~) z)=((x y)~ z z z z z)");
        is("(m (1) () " + large + ")", 1, Checks.ILLEGAL_STATE,
                "(m (x~) (y~) z)=(z z z z z (x y)~)");
        is("(m (1) (2) " + large + ")", 1, Checks.UNSUPPORTED,
                "(m (x~) (y~) z)=(z z z z z (x y)~)");
        is("(m (1) () (((((((3))))))))", 1, Checks.ILLEGAL_STATE,
                "(m (x~) (y~) z)=((((((z))))) (x y)~)");
        is("(m (1) (2) (((((((3))))))))", 1, Checks.UNSUPPORTED,
                "(m (x~) (y~) z)=((((((z))))) (x y)~)");
    }
}
