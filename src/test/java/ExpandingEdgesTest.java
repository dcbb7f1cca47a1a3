/** Section "Terms": how a term is expanded and what marks come, a test a sentence. */
final class ExpandingEdgesTest {
    private static final Checks CHECKS = new Checks();

    public static void main(String[] args) {
        CHECKS.sentences(ExpandingEdgesTest::nothingAtFirst, ExpandingEdgesTest::innermostName,
                ExpandingEdgesTest::levels, ExpandingEdgesTest::freeNames,
                ExpandingEdgesTest::numerals, ExpandingEdgesTest::uses,
                ExpandingEdgesTest::sameDepth, ExpandingEdgesTest::sameNames,
                ExpandingEdgesTest::bindingForm, ExpandingEdgesTest::choosingForm,
                ExpandingEdgesTest::quotingForm, ExpandingEdgesTest::otherLists,
                ExpandingEdgesTest::oneDeeper, ExpandingEdgesTest::malformed,
                ExpandingEdgesTest::malformedUses, ExpandingEdgesTest::leftToRight,
                ExpandingEdgesTest::foundFirst, ExpandingEdgesTest::marks,
                ExpandingEdgesTest::constant);
        CHECKS.end();
    }

    private static void is(String text, String due) {
        CHECKS.expands(text, 0, due);
    }

    private static void areMalformed(String... texts) {
        for (String text : texts) {
            is(text, Checks.ILLEGAL_STATE);
        }
    }

    private static void nothingAtFirst() {
        CHECKS.sentence("with what is bound (nothing at first; the text itself is 1 deep)");
        is("x", "123");
        MacroForge forge = Checks.forge("(m)=(((((((1)))))))");
        Checks.expand(forge, "(L x (L y ()))", 0);
        CHECKS.same("behind names that were bound when it threw", "1 123 124 2",
                Checks.expand(forge, "(x y)", 0));
        Checks.expand(forge, "(L m (L y y))", 0);
        CHECKS.same("behind names that were bound", "1 124 " + Checks.nestMarks(7, "11") + " 2",
                Checks.expand(forge, "(y (m))", 1));
        // 4 lists of the text and 7 of the rule make the numeral 12 deep.
        CHECKS.same("1 deep", Checks.nestMarks(11, "11"),
                Checks.expand(forge, Checks.nest(4, "(m)"), 1));
        CHECKS.same("not 0 deep", Checks.UNSUPPORTED,
                Checks.expand(forge, Checks.nest(5, "(m)"), 1));
    }

    private static void innermostName() {
        CHECKS.sentence("if one of the names that are bound has the same letter and the same mark"
                + " (or both none), it is a VARIABLE of the innermost such one");
        is("(L x (L x x))", "1 3 1 3 201 2 2");
        is("(L x (L y x))", "1 3 1 3 200 2 2");
        is("(L x (L x (L y (L x (L y x)))))", "1 3 1 3 1 3 1 3 1 3 203 2 2 2 2 2");
        // The same letter with another mark is another name.
        CHECKS.expands("(L t (m t))", 1, "1 3 1 3 1 201 200 2 2 2", "(m x)=(L t (t x))");
        CHECKS.expands("(L t (m t))", 1, "1 3 1 3 1 3 1 3 1 203 202 2 2 2 2 2",
                "(m x)=(L t (L x (L t (t x))))");
        // Another letter with the same mark is another name, too.
        CHECKS.expands("(m)", 1, "1 3 1 200 120 2 2", "(m)=(L t (t u))");
        // Behind the list a name is what it was before.
        is("(L x ((L x x) x))", "1 3 1 1 3 201 2 200 2 2");
        is("((L x (L y y)) x y)", "1 1 3 1 3 201 2 2 123 124 2");
    }

    private static void levels() {
        CHECKS.sentence("its LEVEL is how many were bound outside of that one.");
        String names = "abcdefg";
        for (int level = 0; level < 7; level++) {
            StringBuilder text = new StringBuilder();
            for (char c : names.toCharArray()) {
                text.append("(L ").append(c).append(' ');
            }
            text.append(names.charAt(level)).append(")))))))");
            is(text.toString(), "1 3 ".repeat(7) + (200 + level) + " 2".repeat(7));
        }
        // Inside of that one as many as may be, outside of it as many as may be.
        is("(L a (L b (L c (L d (L e (L f (L g (L h a))))))))",
                "1 3 ".repeat(8) + "200" + " 2".repeat(8));
        CHECKS.expands("(L a (L b (L c (L d (m a b c d)))))", 1, "1 3 ".repeat(10)
                + "1 200 203 204 209 2" + " 2".repeat(10),
                "(m w _ _ z)=(L e(L f(L g(L h(L i(L j(w z e j)))))))");
        // Bound beside it is not bound outside of it.
        is("((L x x) (L y y) (L z (L x z)))", "1 1 3 200 2 1 3 200 2 1 3 1 3 200 2 2 2");
    }

    private static void freeNames() {
        CHECKS.sentence("Otherwise it is FREE, a letter alone, whatever its mark.");
        is("(L x (y a z))", "1 3 1 124 100 125 2 2");
        CHECKS.expands("(m t)", 1, "1 119 119 2", "(m x)=(t x)");
        CHECKS.expands("((m t) (m t))", 2, "1 1 119 119 2 1 119 119 2 2", "(m x)=(t x)");
        CHECKS.expands("(L t (m))", 1, "1 3 119 2", "(m)=t");
        is("((L x x) x)", "1 1 3 200 2 123 2");
    }

    private static void numerals() {
        CHECKS.sentence("A numeral stays.");
        for (int n = 0; n <= 9; n++) {
            is("" + n, "1" + n);
            is("(L x (" + n + " x))", "1 3 1 1" + n + " 200 2 2");
            CHECKS.expands("(m " + n + ")", 1, "1 1" + n + " 2", "(m x)=(x)");
        }
    }

    private static void uses() {
        CHECKS.sentence("A list that begins with a name that isn't bound and whose letter is a macro"
                + " (some rule was told for it) is a USE");
        CHECKS.expands("(m)", 1, "17", "(m)=7");
        CHECKS.expands("(n)", 0, "1 113 2", "(m)=7");
        CHECKS.expands("m", 0, "112", "(m)=7");
        CHECKS.expands("(1 m)", 0, "1 11 112 2", "(m)=7");
        CHECKS.expands("((m))", 1, "1 17 2", "(m)=7");
        CHECKS.expands("((m) 1)", 1, "1 1 3 200 2 11 2", "(m)=(L x x)");
        CHECKS.expands("(M)", 0, Checks.ILLEGAL_ARGUMENT, "(m)=7");
        // Bound, and not bound any more.
        CHECKS.expands("(L m (m))", 0, "1 3 1 200 2 2", "(m)=7");
        CHECKS.expands("(L m (L x (m x)))", 0, "1 3 1 3 1 200 201 2 2 2", "(m)=7");
        CHECKS.expands("((L m m) (m))", 1, "1 1 3 200 2 17 2", "(m)=7");
        // Bound with another mark is not bound.
        CHECKS.expands("(L n (m))", 2, "1 3 18 2", "(m)=(n)", "(n)=8");
        CHECKS.expands("(m (n))", 2, "1 3 18 2", "(m x)=(L n x)", "(n)=8");
        CHECKS.expands("(m)", 1, "1 3 1 200 2 2", "(m)=(L n (n))", "(n)=8");
        CHECKS.expands("(m n)", 1, "1 3 1 200 2 2", "(m x)=(L x (x))", "(n)=8");
        // A letter is a macro as long as it has a rule.
        MacroForge forge = Checks.forge("(m)=7", "(m x)=x");
        forge.forget('m');
        CHECKS.same("no rule is told for it", "1 112 2", Checks.expand(forge, "(m)", 12));
        Checks.rule(forge, "(m 1)=7");
        CHECKS.same("one is told that doesn't match", Checks.ILLEGAL_STATE,
                Checks.expand(forge, "(m)", 12));
    }

    private static void sameDepth() {
        CHECKS.sentence("it is replaced, and what comes is expanded, at the same depth");
        // Twelve replacements, one for another, make nothing deeper.
        CHECKS.expands("(m 11111111111111)", 12, Checks.nestMarks(8, "17"),
                "(m 1 1 1)=((((((((7))))))))", "(m x y~)=(m y~)");
        String deepest = "(m)=(((((7)))))";
        CHECKS.expands(Checks.nest(6, "(m)"), 1, Checks.nestMarks(11, "17"), deepest);
        CHECKS.expands(Checks.nest(7, "(m)"), 1, Checks.UNSUPPORTED, deepest);
        CHECKS.expands(Checks.nest(6, "(n)"), 3, Checks.nestMarks(11, "17"), deepest, "(n)=(o)",
                "(o)=(m)");
        CHECKS.expands(Checks.nest(7, "(n)"), 3, Checks.UNSUPPORTED, deepest, "(n)=(o)", "(o)=(m)");
    }

    private static void sameNames() {
        CHECKS.sentence("with the same names bound");
        CHECKS.expands("(L x (L y (m x y)))", 1, "1 3 1 3 1 201 200 120 2 2 2", "(m x y)=(y x u)");
        CHECKS.expands("(L x (m x))", 3, "1 3 200 2", "(m x)=(n x)", "(n x)=(o x)", "(o x)=x");
        CHECKS.expands("((L x (m x)) (m x))", 2, "1 1 3 200 2 123 2", "(m x)=x");
    }

    private static void bindingForm() {
        CHECKS.sentence("(L n e): n is a name, it is bound (innermost) in e, which is expanded.");
        for (char c = 'a'; c <= 'z'; c++) {
            is("(L " + c + " " + c + ")", "1 3 200 2");
        }
        is("(L x (L x ((L x x) x)))", "1 3 1 3 1 1 3 202 2 201 2 2 2");
        CHECKS.expands("(L x (m x))", 1, "1 3 1 200 2 2", "(m x)=(x)");
        areMalformed("(L)", "(L x)", "(L x x x)", "(L x x x x)", "(L 0 x)", "(L 9 x)", "(L L x)",
                "(L I x)", "(L Q x)", "(L () x)", "(L (x) x)", "(L x ())", "(L x L)", "((L x) x)");
        // n is no expression: a use there is a list and no name.
        CHECKS.expands("(L (m) 1)", 1, Checks.ILLEGAL_STATE, "(m)=x");
        CHECKS.expands("(L m 1)", 0, "1 3 11 2", "(m)=x");
        // Another keyword binds nothing.
        is("(I x x x)", "1 4 123 123 123 2");
    }

    private static void choosingForm() {
        CHECKS.sentence("(I e e e): each is expanded.");
        is("(I 1 x (2))", "1 4 11 123 1 12 2 2");
        CHECKS.expands("(I (m 1) (m 2) (m 3))", 3, "1 4 11 12 13 2", "(m x)=x");
        areMalformed("(I)", "(I 1)", "(I 1 2)", "(I 1 2 3 4)", "(I 1 2 3 4 5)", "(I L 2 3)",
                "(I 1 L 3)", "(I 1 2 L)", "(I () 2 3)", "(I 1 2 ())");
    }

    private static void quotingForm() {
        CHECKS.sentence("(Q t): t stays as it is, but for the marks, which go.");
        is("(Q x)", "1 5 123 2");
        is("(L x (Q (x 1)))", "1 3 1 5 1 123 11 2 2 2");
        is("(Q (L))", "1 5 1 -1 2 2");
        is("(Q (I () (Q)))", "1 5 1 -2 1 2 1 -3 2 2 2");
        CHECKS.expands("(Q (m 1))", 0, "1 5 1 112 11 2 2", "(m x)=x");
        CHECKS.expands("(m t)", 1, "1 3 1 5 1 119 119 2 2 2", "(m x)=(L t (Q (t x)))");
        areMalformed("(Q)", "(Q 1 2)", "(Q 1 2 3)", "(Q () ())", "((Q) 1)");
    }

    private static void otherLists() {
        CHECKS.sentence("Any other list that isn't empty and doesn't begin with a keyword: each item"
                + " is expanded.");
        is("(1)", "1 11 2");
        is("(x)", "1 123 2");
        is("(1 (2) x (Q L))", "1 11 1 12 2 123 1 5 -1 2 2");
        is("((L x x) 1)", "1 1 3 200 2 11 2");
        is("((1))", "1 1 11 2 2");
        is("(" + "1".repeat(58) + ")", "1" + " 11".repeat(58) + " 2");
        CHECKS.expands("(1 (m) x (m))", 2, "1 11 17 123 17 2", "(m)=7");
        areMalformed("()", "(())", "(1 ())", "(L)", "(I)", "(Q)");
    }

    private static void oneDeeper() {
        CHECKS.sentence("Items are one deeper than their list.");
        // Each kind of list, 11 deep with items 12 deep, and 12 deep with items 13 deep.
        String[][] forms = {{"1", "1 11 2"}, {"1 2 3", "1 11 12 13 2"}, {"L x x", "1 3 200 2"},
            {"I 1 2 3", "1 4 11 12 13 2"}};
        for (String[] form : forms) {
            CHECKS.expands("(m" + Checks.nest(6, form[0]) + ")", 1, Checks.nestMarks(10, form[1]),
                    "(m x)=(((((x)))))");
            CHECKS.expands("(m" + Checks.nest(7, form[0]) + ")", 1, Checks.UNSUPPORTED,
                    "(m x)=(((((x)))))");
        }
        // What Q has is no expression, however deep.
        CHECKS.expands("(m" + Checks.nest(7, "Q 1") + ")", 1, Checks.nestMarks(11, "1 5 11 2"),
                "(m x)=(((((x)))))");
        CHECKS.expands("(((((m (((1))))))))", 1,
                Checks.nestMarks(11, "1 5 " + Checks.nestMarks(3, "11") + " 2"),
                "(m x)=((((((((Q x))))))))");
        // Items side by side are no deeper.
        CHECKS.expands("(m" + Checks.nest(6, "(1)".repeat(12)) + ")", 1,
                Checks.nestMarks(10, "1 11 2" + " 1 11 2".repeat(11)), "(m x)=((((x))))");
    }

    private static void malformed() {
        CHECKS.sentence("What is none of these is MALFORMED");
        areMalformed("L", "I", "Q", "()", "(L)", "(I)", "(Q)", "(1 L)", "(1 I)", "(1 Q)", "(x L)",
                "((()))", "(1 2 (3 ()))", "(L x (L y (1 Q)))", "(I 1 2 (Q))", "(L Q Q)", "((L))");
        CHECKS.expands("(m)", 1, Checks.ILLEGAL_STATE, "(m)=L");
        CHECKS.expands("(m)", 1, Checks.ILLEGAL_STATE, "(m)=()");
        CHECKS.expands("(m)", 1, Checks.ILLEGAL_STATE, "(m)=(Q)");
        CHECKS.expands("(m Q)", 1, Checks.ILLEGAL_STATE, "(m x)=x");
        CHECKS.expands("(m 1)", 1, Checks.ILLEGAL_STATE, "(m x)=(L x 2)");
        // What a use drops was never looked at.
        CHECKS.expands("(m (L) ())", 1, "17", "(m x y)=7");
    }

    private static void malformedUses() {
        CHECKS.sentence("so is a use that no rule matches, or whose MANYs matched unequally many.");
        CHECKS.expands("(m)", 12, Checks.ILLEGAL_STATE, "(m x)=7");
        CHECKS.expands("(m 1 2)", 12, Checks.ILLEGAL_STATE, "(m x)=7");
        CHECKS.expands("(m 1)", 12, Checks.ILLEGAL_STATE, "(m 2)=7", "(m L)=7", "(n 1)=7");
        CHECKS.expands("(1 (m))", 12, Checks.ILLEGAL_STATE, "(m x)=7");
        CHECKS.expands("(m (1) ())", 12, Checks.ILLEGAL_STATE, "(m (x~) (y~))=(0 (x y)~)");
        CHECKS.expands("(m (1) (2))", 12, "1 10 1 11 12 2 2", "(m (x~) (y~))=(0 (x y)~)");
        // What Q has is no use.
        CHECKS.expands("(Q (m))", 12, "1 5 1 112 2 2", "(m x)=7");
    }

    private static void leftToRight() {
        CHECKS.sentence("All this goes from the left to the right, the outer before the inner, marks"
                + " of the result coming as they are found.");
        CHECKS.expands("((m) 3 (n) (L x (4 x)))", 2, "1 11 13 12 1 3 1 14 200 2 2 2", "(m)=1",
                "(n)=2");
        // The left one has no rule that matches; the right one is not replaced before that.
        replacedThen("((m) (n 1))", 12, 0, "(m x)=1", "(n x)=2");
        replacedThen("((n 1) (m))", 12, 1, "(m x)=1", "(n x)=2");
        replacedThen("(I (n 1) (m) (n 1))", 12, 1, "(m x)=1", "(n x)=2");
        // The outer use is replaced before the ones in it, which may go with it or be doubled.
        CHECKS.expands("(m (n))", 1, "17", "(m x)=7", "(n)=8");
        CHECKS.expands("(m (n))", 1, "1 5 1 113 2 2", "(m x)=(Q x)", "(n)=8");
        CHECKS.expands("(m (n))", 3, "1 18 18 2", "(m x)=(x x)", "(n)=8");
        CHECKS.expands("(m (n))", 2, Checks.UNSUPPORTED, "(m x)=(x x)", "(n)=8");
        // A list's own form is looked at before its items.
        replacedThen("(I (n 1) 2)", 12, 0, "(n x)=2");
        replacedThen("(L 1 (n 1))", 12, 0, "(n x)=2");
        replacedThen("(L x (n 1) (n 1))", 12, 0, "(n x)=2");
    }

    private static void replacedThen(String text, int fuel, int due, String... rules) {
        MacroForge forge = Checks.forge(rules);
        String answer = Checks.expand(forge, text, fuel);
        CHECKS.same("replaced() behind " + text + " that answered " + answer, due,
                forge.replaced());
    }

    private static void foundFirst() {
        CHECKS.sentence("What is found first is thrown.");
        CHECKS.expands("(() (m))", 0, Checks.ILLEGAL_STATE, "(m)=1");
        CHECKS.expands("((m) ())", 0, Checks.UNSUPPORTED, "(m)=1");
        CHECKS.expands("(I (m) 1)", 0, Checks.ILLEGAL_STATE, "(m)=1");
        CHECKS.expands("(I (m) 1 L)", 0, Checks.UNSUPPORTED, "(m)=1");
        CHECKS.expands("(m ())", 0, Checks.UNSUPPORTED, "(m x)=x");
        // Too deep on the left, malformed on the right, and the other way round.
        CHECKS.expands("(m ((((((1)))))) L)", 1, Checks.UNSUPPORTED, "(m x y)=((((((x))))) y)");
        CHECKS.expands("(m ((((((1)))))) L)", 1, Checks.ILLEGAL_STATE, "(m x y)=(y (((((x))))))");
        // More marks than there may be, and malformed: 143 marks come of the first item.
        String wide = "(c(c(1111111111111)))";
        CHECKS.expands("(" + wide + "1111111L)", 4, Checks.UNSUPPORTED, "(c x)=(x x x)");
        CHECKS.expands("(" + wide + "L1111111)", 4, Checks.ILLEGAL_STATE, "(c x)=(x x x)");
        CHECKS.expands("(" + wide + "1111111(c))", 4, Checks.UNSUPPORTED, "(c x)=(x x x)");
        CHECKS.expands("((c)" + wide + "1111111)", 4, Checks.ILLEGAL_STATE, "(c x)=(x x x)");
    }

    private static void marks() {
        CHECKS.sentence("The RESULT is a row of marks: 1 (, 2 ), 3 L (the name that it binds is left"
                + " out), 4 I, 5 Q; 10 .. 19 a numeral; 100 .. 125 a letter, free or behind Q; 200 +"
                + " its level a variable; -1 L, -2 I, -3 Q inside of what Q has.");
        is("(1)", "1 11 2");
        is("(L x 1)", "1 3 11 2");
        is("(L x x)", "1 3 200 2");
        is("(I 1 2 3)", "1 4 11 12 13 2");
        is("(Q 1)", "1 5 11 2");
        for (char c = '0'; c <= '9'; c++) {
            is("(" + c + " (Q " + c + "))", "1 1" + c + " 1 5 1" + c + " 2 2");
        }
        for (char c = 'a'; c <= 'z'; c++) {
            int mark = 100 + c - 'a';
            is("(" + c + " (Q " + c + "))", "1 " + mark + " 1 5 " + mark + " 2 2");
        }
        is("(Q L)", "1 5 -1 2");
        is("(Q I)", "1 5 -2 2");
        is("(Q Q)", "1 5 -3 2");
        is("(Q (L x x))", "1 5 1 -1 123 123 2 2");
        is("(Q (I 1 (Q x)))", "1 5 1 -2 11 1 -3 123 2 2 2");
    }

    private static void constant() {
        CHECKS.sentence("The constants: NONE = -99: Nothing there.");
        CHECKS.same("NONE", -99, MacroForge.NONE);
        CHECKS.same("mark(0) of a new object", -99, new MacroForge().mark(0));
    }
}
