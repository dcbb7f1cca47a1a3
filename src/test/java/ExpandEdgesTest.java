/** Promise 6: expand, a test a sentence and a test a case of what it throws. */
final class ExpandEdgesTest {
    private static final Checks CHECKS = new Checks();
    /** By this rule, the text behind it makes 143 marks with 4 replacements. */
    private static final String TRIPLE = "(c x)=(x x x)";
    private static final String WIDE = "(c(c(1111111111111)))";

    public static void main(String[] args) {
        CHECKS.sentences(ExpandEdgesTest::draftIsEmptyThen, ExpandEdgesTest::howManyMarks,
                ExpandEdgesTest::noTerm, ExpandEdgesTest::wrongFuel, ExpandEdgesTest::malformed,
                ExpandEdgesTest::atMostFuel, ExpandEdgesTest::moreReplacements,
                ExpandEdgesTest::tooLarge, ExpandEdgesTest::tooDeepLists,
                ExpandEdgesTest::tooDeepExpression, ExpandEdgesTest::beforeAllElse,
                ExpandEdgesTest::tooManyMarks, ExpandEdgesTest::firstWhetherAReplacementIsLeft,
                ExpandEdgesTest::thenWhetherARuleMatches,
                ExpandEdgesTest::thenWhetherManysMatchedEquallyMany, ExpandEdgesTest::thenSizes,
                ExpandEdgesTest::noResultThen, ExpandEdgesTest::resultOfBeforeStays);
        CHECKS.end();
    }

    private static void draftIsEmptyThen() {
        CHECKS.sentence("Expands the draft (it is empty then, in any case)");
        String[][] texts = {{"7", "1"}, {"(m 1)", "1"}, {"", "1"}, {" ", "1"}, {"(7", "1"},
            {"7", "13"}, {"7", "-1"}, {"(7", "13"}, {"()", "1"}, {"(m)", "1"}, {"(m 1)", "0"}};
        for (String[] text : texts) {
            MacroForge forge = Checks.forge("(m x)=x");
            String answer = Checks.expand(forge, text[0], Integer.parseInt(text[1]));
            CHECKS.same("an empty draft behind " + text[0] + ", " + answer,
                    Checks.ILLEGAL_ARGUMENT, Checks.expand(forge, "", 0));
            Checks.expand(forge, text[0], Integer.parseInt(text[1]));
            CHECKS.same("a text behind " + text[0] + ", " + answer, "18",
                    Checks.expand(forge, "8", 0));
            Checks.expand(forge, text[0], Integer.parseInt(text[1]));
            CHECKS.same("a rule behind " + text[0] + ", " + answer, "1",
                    Checks.rule(forge, "(n)=1"));
        }
    }

    private static void howManyMarks() {
        CHECKS.sentence("how many marks the result has.");
        String[] texts = {"7", "(7)", "(m 7)", "(L x x)", "(Q ())", "(I 1 (2) (m (3)))"};
        int[] due = {1, 3, 1, 4, 5, 10};
        for (int n = 0; n < texts.length; n++) {
            MacroForge forge = Checks.forge("(m x)=x");
            Checks.type(forge, texts[n]);
            CHECKS.same("expand of " + texts[n], due[n], forge.expand(1));
            CHECKS.same("the last mark of " + texts[n], true,
                    forge.mark(due[n] - 1) != MacroForge.NONE);
            CHECKS.same("behind the last mark of " + texts[n], MacroForge.NONE,
                    forge.mark(due[n]));
        }
    }

    private static void noTerm() {
        CHECKS.sentence("IllegalArgumentException: the draft is no term");
        for (String text : new String[] {"", " ", "(", ")", "(a", "a)", "ab", "1 2", "()()", "(a))",
            "_", "(_)", "~", "(a~)", "=", "(m)=1", "A", "(Q _)", "(Q a~)", "(m x~)", "((((((((("
            + ")))))))))"}) {
            CHECKS.expands(text, 0, Checks.ILLEGAL_ARGUMENT);
            CHECKS.expands(text, 12, Checks.ILLEGAL_ARGUMENT, "(m x~)=1");
            CHECKS.expands(text, 13, Checks.ILLEGAL_ARGUMENT);
        }
    }

    private static void wrongFuel() {
        CHECKS.sentence("or fuel isn't 0 .. 12.");
        for (int fuel = -20; fuel <= 40; fuel++) {
            CHECKS.expands("7", fuel, fuel >= 0 && fuel <= 12 ? "17" : Checks.ILLEGAL_ARGUMENT);
        }
        int[] far = {Integer.MIN_VALUE, Integer.MIN_VALUE + 1, -256, 256, 65536, 1 << 30,
            Integer.MAX_VALUE};
        for (int fuel : far) {
            CHECKS.expands("7", fuel, Checks.ILLEGAL_ARGUMENT);
        }
        // It is looked at before the term is expanded.
        CHECKS.expands("()", 13, Checks.ILLEGAL_ARGUMENT);
        CHECKS.expands("(m)", -1, Checks.ILLEGAL_ARGUMENT, "(m)=1");
    }

    private static void malformed() {
        CHECKS.sentence("IllegalStateException: it is malformed.");
        for (String text : new String[] {"()", "L", "(L)", "(L x)", "(L 1 1)", "(I 1 2)", "(Q)",
            "(Q 1 2)", "(1 ())", "(1 L)", "(m)", "(m 1 2)", "(n (1) ())"}) {
            CHECKS.expands(text, 12, Checks.ILLEGAL_STATE, "(m x)=x", "(n (x~) (y~))=((x y)~)");
        }
    }

    private static void atMostFuel() {
        CHECKS.sentence("with at most fuel replacements");
        for (int fuel = 0; fuel <= 12; fuel++) {
            for (int uses = 0; uses <= fuel; uses++) {
                fuelled("(1" + "(m)".repeat(uses) + ")", fuel, uses, "1 11" + " 17".repeat(uses)
                        + " 2", "(m)=7");
            }
            for (int uses = 1; uses <= fuel; uses++) {
                fuelled("(m" + "1".repeat(uses - 1) + "2)", fuel, uses, "17", "(m 1 x~)=(m x~)",
                        "(m 2)=7");
            }
        }
        // What is no use takes none.
        CHECKS.expands("(Q (m))", 0, "1 5 1 112 2 2", "(m)=7");
        CHECKS.expands("(L m (m))", 0, "1 3 1 200 2 2", "(m)=7");
    }

    private static void moreReplacements() {
        CHECKS.sentence("UnsupportedOperationException: it would take more replacements");
        for (int fuel = 0; fuel <= 12; fuel++) {
            for (int uses = fuel + 1; uses <= 14; uses++) {
                fuelled("(1" + "(m)".repeat(uses) + ")", fuel, uses, "", "(m)=7");
                fuelled("(m" + "1".repeat(uses - 1) + "2)", fuel, uses, "", "(m 1 x~)=(m x~)",
                        "(m 2)=7");
            }
            CHECKS.expands("(m)", fuel, Checks.UNSUPPORTED, "(m)=(m)");
        }
    }

    /** Side by side or one for another, so many uses are replaced as there is fuel for. */
    private static void fuelled(String text, int fuel, int uses, String due, String... rules) {
        MacroForge forge = Checks.forge(rules);
        CHECKS.same("fuel " + fuel + " for " + text, uses <= fuel ? due : Checks.UNSUPPORTED,
                Checks.expand(forge, text, fuel));
        CHECKS.same("replaced() behind fuel " + fuel + " for " + text, Math.min(uses, fuel),
                forge.replaced());
    }

    private static void tooLarge() {
        CHECKS.sentence("a replacement makes a term of more than 60 names, numerals, keywords and"
                + " lists in all");
        // Two lists, a keyword and a numeral, and as many of each kind as were matched.
        for (String kind : new String[] {"1", "a", "L", "m"}) {
            for (int n = 50; n <= 57; n++) {
                sized("(m" + kind.repeat(n) + ")", 4 + n, "(m x~)=(Q (0 x~))");
            }
        }
        for (int n = 20; n <= 28; n++) {
            sized("(m" + "()".repeat(n) + ")", 3 + 2 * n, "(m x~)=(Q (x~ x~))");
            sized("(m" + "()".repeat(n) + ")", 4 + 2 * n, "(m x~)=(Q (0 x~ x~))");
            sized("(m" + "()".repeat(n) + ")", 5 + 2 * n, "(m x~)=(Q (0 a x~ x~))");
            sized("(m" + "()".repeat(n) + ")", 3 + 2 * n, "(m x~)=(Q ((x)~))");
            sized("(m" + "()".repeat(n) + ")", 5 + 2 * n, "(m x~)=(Q ((x)~ L ()))");
        }
        // What is one SINGLE's, four times.
        for (int n = 10; n <= 16; n++) {
            for (int zeros = 0; zeros <= 6; zeros++) {
                sized("(m(" + "1".repeat(n) + "))", 1 + zeros + 4 * (n + 1),
                        "(m x)=(" + "0".repeat(zeros) + "xxxx)");
            }
        }
        // What stands round the use doesn't count, nor does a replacement of before.
        CHECKS.expands("(11111(m 1 1)(m(1111111111111)1))", 2, "1 11 11 11 11 11"
                + " 1 11 11 11 11 11 11 11 2 1" + (" 1" + " 11".repeat(13) + " 2").repeat(4)
                + " 11 11 11 2 2", "(m x y)=(x x x x y y y)");
        // Nor do eleven of the largest.
        replacedThen("(m" + "1".repeat(57) + ")", 12, 12, "(m x~)=(o 1 x~)", "(o x~)=(o x~)");
        replacedThen("(m" + "1".repeat(57) + ")", 12, 1, "(m x~)=(o 1 x~)", "(o x~)=(o 1 x~)");
    }

    /** A replacement that makes a term of a size. */
    private static void sized(String text, int size, String rule) {
        MacroForge forge = Checks.forge(rule);
        String answer = Checks.expand(forge, text, 1);
        CHECKS.same(size + " by " + text + " and " + rule, size <= 60,
                !answer.equals(Checks.UNSUPPORTED));
        CHECKS.same("replaced() then", size <= 60 ? 1 : 0, forge.replaced());
    }

    private static void tooDeepLists() {
        CHECKS.sentence("or one whose lists are more than 12 deep");
        for (int made = 1; made <= 8; made++) {
            for (int matched = 0; matched <= 7; matched++) {
                String rule = "(m x)=(Q " + Checks.nest(made - 1, "x") + ")";
                boolean fits = made + matched <= 12;
                CHECKS.expands("(m " + Checks.nest(matched, "1") + ")", 1, fits ? "1 5 "
                        + Checks.nestMarks(made - 1 + matched, "11") + " 2" : Checks.UNSUPPORTED,
                        rule);
                // The innermost list counts though nothing is in it.
                if (matched > 0) {
                    CHECKS.expands("(m " + Checks.nest(matched, "") + ")", 1, fits ? "1 5 "
                            + Checks.nestMarks(made - 2 + matched, "1 2") + " 2"
                            : Checks.UNSUPPORTED, rule);
                }
            }
        }
        // Behind others, and by a MANY.
        CHECKS.expands("(m 1 (((((((1))))))))", 1, "1 5 1 11 1 11 1 11 1 11 11 "
                + Checks.nestMarks(7, "11") + " 2 2 2 2 2", "(m x~)=(Q (1 (1 (1 (1 x~)))))");
        CHECKS.expands("(m 1 (((((((1))))))))", 1, Checks.UNSUPPORTED,
                "(m x~)=(Q (1 (1 (1 (1 (x)~)))))");
        // The lists round the use don't count.
        CHECKS.expands("((((m ((((1))))))))", 1, Checks.nestMarks(3, "1 5 "
                + Checks.nestMarks(11, "11") + " 2"), "(m x)=(Q (((((((x))))))))");
        // By a second replacement of what the first one made.
        CHECKS.expands("(m 1)", 2, "1 5 " + Checks.nestMarks(11, "11") + " 2",
                "(m x)=(n (((((((x))))))))", "(n x)=(Q ((((x)))))");
        CHECKS.expands("(m 1)", 2, Checks.UNSUPPORTED, "(m x)=(n (((((((x))))))))",
                "(n x)=(Q (((((x))))))");
    }

    private static void tooDeepExpression() {
        CHECKS.sentence("an expression is more than 12 deep");
        for (int outside = 0; outside <= 7; outside++) {
            for (int made = 1; made <= 8; made++) {
                MacroForge forge = Checks.forge("(m)=" + Checks.nest(made, "1"));
                String text = Checks.nest(outside, "(m)");
                boolean fits = outside + made + 1 <= 12;
                CHECKS.same(made + " lists for the use in " + text, fits
                        ? Checks.nestMarks(outside + made, "11") : Checks.UNSUPPORTED,
                        Checks.expand(forge, text, 1));
                CHECKS.same("replaced() then", 1, forge.replaced());
            }
        }
        // In L, in I, and behind others.
        String five = "(m x)=(((((x)))))";
        CHECKS.expands("(m ((((((L x x)))))))", 1, Checks.nestMarks(10, "1 3 200 2"), five);
        CHECKS.expands("(m (((((((L x x))))))))", 1, Checks.UNSUPPORTED, five);
        CHECKS.expands("(m ((((((I 1 1 1)))))))", 1, Checks.nestMarks(10, "1 4 11 11 11 2"), five);
        CHECKS.expands("(m (((((((I 1 1 1))))))))", 1, Checks.UNSUPPORTED, five);
        CHECKS.expands("(m (1 (1 (1 (1 (1 (1)))))))", 1, "1 11 ".repeat(10) + "1 11 2"
                + " 2".repeat(10), "(m x)=(1 (1 (1 (1 (1 x)))))");
        CHECKS.expands("(m (1 (1 (1 (1 (1 (1 (1))))))))", 1, Checks.UNSUPPORTED,
                "(m x)=(1 (1 (1 (1 (1 x)))))");
        // What Q has is no expression.
        CHECKS.expands("(m (((((((Q 1))))))))", 1, Checks.nestMarks(11, "1 5 11 2"), five);
    }

    private static void beforeAllElse() {
        CHECKS.sentence("(this is looked at before all else of it)");
        // In five lists of the text and six of the first rule, x is 12 deep; by the second, 13.
        String twelve = "(m x)=((((((L y x))))))";
        String thirteen = "(m x)=(((((((L y x)))))))";
        String[] others = {"(n x)=1", "(o (x~) (y~))=((x y)~)"};
        for (String wrong : new String[] {"L", "()", "(L x)", "(L 1 1)", "(I 1 2)", "(Q)", "(n)",
            "(o (1) ())"}) {
            String text = Checks.nest(5, "(m " + wrong + ")");
            CHECKS.expands(text, 12, Checks.ILLEGAL_STATE, twelve, others[0], others[1]);
            CHECKS.expands(text, 12, Checks.UNSUPPORTED, thirteen, others[0], others[1]);
        }
        // A use there is not replaced.
        String use = Checks.nest(5, "(m (n 1))");
        replacedThen(use, 12, 2, twelve, others[0]);
        replacedThen(use, 12, 1, thirteen, others[0]);
        // What is outside of it is looked at before it.
        String text = "(m (((((((L 1 L))))))))";
        CHECKS.expands(text, 1, Checks.ILLEGAL_STATE, "(m x)=(((((x)))))");
        CHECKS.expands(text.replace('1', 'x'), 1, Checks.UNSUPPORTED, "(m x)=(((((x)))))");
    }

    private static void replacedThen(String text, int fuel, int due, String... rules) {
        MacroForge forge = Checks.forge(rules);
        String answer = Checks.expand(forge, text, fuel);
        CHECKS.same("replaced() behind " + text + ", which answered " + answer, due,
                forge.replaced());
    }

    private static void tooManyMarks() {
        CHECKS.sentence("or the result has more than 150 marks.");
        for (int more = 0; more <= 12; more++) {
            String due = 145 + more <= 150 ? String.valueOf(145 + more) : Checks.UNSUPPORTED;
            counted("(" + WIDE + "1".repeat(more) + ")", due);
            counted("(" + "a".repeat(more) + WIDE + ")", due);
        }
        // Lists of each kind, with 150 marks and with 151.
        counted("(" + WIDE + "(111))", "150");
        counted("(" + WIDE + "(1111))", Checks.UNSUPPORTED);
        counted("(" + WIDE + "1(Lxx))", "150");
        counted("(" + WIDE + "11(Lxx))", Checks.UNSUPPORTED);
        counted("(" + WIDE + "1(Q1))", "150");
        counted("(" + WIDE + "11(Q1))", Checks.UNSUPPORTED);
        counted("(I" + WIDE + "1(1))", "150");
        counted("(I" + WIDE + "1(11))", Checks.UNSUPPORTED);
        counted("(" + WIDE + "(Q()))", "150");
        counted("(" + WIDE + "1(Q()))", Checks.UNSUPPORTED);
        counted("(" + WIDE + "(Q(1)))", Checks.UNSUPPORTED);
        // The 151st mark is thrown at before what would be found behind it.
        counted("(" + WIDE + "111111L)", Checks.ILLEGAL_STATE);
        counted("(" + WIDE + "1111111L)", Checks.UNSUPPORTED);
        counted("(" + WIDE + "111111aL)", Checks.UNSUPPORTED);
        counted("(" + WIDE + "111111(1L))", Checks.UNSUPPORTED);
        counted("(" + WIDE + "11111(LxL))", Checks.UNSUPPORTED);
        counted("(" + WIDE + "1111(LxL))", Checks.ILLEGAL_STATE);
        counted("(" + WIDE + "11111(IL11))", Checks.UNSUPPORTED);
        counted("(" + WIDE + "1111(IL11))", Checks.ILLEGAL_STATE);
        counted("(" + WIDE + "111(Q1)L)", Checks.UNSUPPORTED);
        counted("(" + WIDE + "11(Q1)L)", Checks.ILLEGAL_STATE);
    }

    private static void counted(String text, String due) {
        String answer = Checks.expand(Checks.forge(TRIPLE), text, 4);
        CHECKS.same("marks of " + text, due, answer.endsWith("Exception") ? answer
                : String.valueOf(answer.split(" ").length));
    }

    private static void firstWhetherAReplacementIsLeft() {
        CHECKS.sentence("At a use it is looked first whether a replacement is left");
        String[] rules = {"(m)=1", "(n (x~) (y~))=((x y)~)"};
        for (String use : new String[] {"(m 1)", "(n)", "(n (1) ())", "(n () (1 1))"}) {
            CHECKS.expands(use, 0, Checks.UNSUPPORTED, rules);
            CHECKS.expands(use, 1, Checks.ILLEGAL_STATE, rules);
            CHECKS.expands("((m)" + use + ")", 1, Checks.UNSUPPORTED, rules);
            CHECKS.expands("((m)" + use + ")", 2, Checks.ILLEGAL_STATE, rules);
            CHECKS.expands("(" + "(m)".repeat(12) + use + ")", 12, Checks.UNSUPPORTED, rules);
            CHECKS.expands("(" + "(m)".repeat(11) + use + ")", 12, Checks.ILLEGAL_STATE, rules);
        }
    }

    private static void thenWhetherARuleMatches() {
        CHECKS.sentence("then whether a rule matches");
        // Rules that don't match are not looked at further, though they would make too much.
        String large = "(1111111111111)";
        String[] rules = {"(m x 0)=(x x x x x)", "(m (x~) (y~) 1)=((x y)~)",
            "(m x 2)=((((((((x))))))))"};
        CHECKS.expands("(m " + large + " 0)", 1, Checks.UNSUPPORTED, rules);
        CHECKS.expands("(m " + large + " 3)", 1, Checks.ILLEGAL_STATE, rules);
        CHECKS.expands("(m ((((((1)))))) 2)", 1, Checks.UNSUPPORTED, rules);
        CHECKS.expands("(m ((((((1)))))) 3)", 1, Checks.ILLEGAL_STATE, rules);
        CHECKS.expands("(m " + large + " 3)", 1, "17", rules[0], rules[1], rules[2], "(m _~)=7");
        CHECKS.expands("(m (1) () 1)", 1, Checks.ILLEGAL_STATE, rules[0], rules[1], "(m _~)=7");
        CHECKS.expands("(m (1) () 3)", 1, "17", rules[0], rules[1], rules[2], "(m _~)=7");
    }

    private static void thenWhetherManysMatchedEquallyMany() {
        CHECKS.sentence("whether MANYs matched equally many");
        String large = "(1111111111111)";
        for (String template : new String[] {"((x y)~ z z z z z)", "(z z z z z (x y)~)",
            "((z z z) (z z ((x y)~)))", "((((((z))))) (x y)~)", "((x y)~ (((((z))))))"}) {
            String rule = "(m (x~) (y~) z)=" + template;
            String term = template.contains("z z") ? large : "(((((((1)))))))";
            CHECKS.expands("(m (1) () " + term + ")", 1, Checks.ILLEGAL_STATE, rule);
            CHECKS.expands("(m () (1) " + term + ")", 1, Checks.ILLEGAL_STATE, rule);
            CHECKS.expands("(m (1) (1) " + term + ")", 1, Checks.UNSUPPORTED, rule);
            CHECKS.expands("(m () () " + term + ")", 1, Checks.UNSUPPORTED, rule);
        }
    }

    private static void thenSizes() {
        CHECKS.sentence("then at sizes.");
        // What would be malformed in what is made is not found, for it isn't made.
        CHECKS.expands("(m (1111111111111))", 1, Checks.UNSUPPORTED, "(m x)=(L x x x x x)");
        CHECKS.expands("(m (111111111111))", 1, Checks.ILLEGAL_STATE, "(m x)=(L x x x x)");
        CHECKS.expands("(m (((((((1))))))))", 1, Checks.UNSUPPORTED, "(m x)=(L (((((x))))))");
        CHECKS.expands("(m (((((((1))))))))", 1, Checks.ILLEGAL_STATE, "(m x)=(L ((((x)))))");
        // Nor is a later rule taken that would make less.
        CHECKS.expands("(m (1111111111111))", 1, Checks.UNSUPPORTED, "(m x)=(x x x x x)",
                "(m x)=7");
    }

    private static void noResultThen() {
        CHECKS.sentence("After what is thrown there is no result");
        String[] rules = {"(m)=((7))", "(n (x~) (y~))=((x y)~)", "(d x)=(x x x x x x x x x x)",
            "(e x)=((((((((x))))))))", TRIPLE};
        String[] throwing = {"()", "(1 2 L)", "(1 (m 1))", "(1 (n (1) ()))",
            "(1 " + "(m)".repeat(13) + ")", "(1 (d (1 1 1 1 1)))", "(1 (e (((((1)))))))", "((((((e 1))))))",
            "(" + WIDE + "111111)"};
        for (String text : throwing) {
            MacroForge forge = Checks.forge(rules);
            Checks.expand(forge, "((m) 1)", 1);
            CHECKS.same("a result", "1 1 1 17 2 2 11 2 | 3", Checks.marks(forge) + " | "
                    + forge.depth());
            String answer = Checks.expand(forge, text, 12);
            CHECKS.same("behind " + text, true, answer.equals(Checks.ILLEGAL_STATE)
                    || answer.equals(Checks.UNSUPPORTED));
            for (int k = -1; k <= 151; k++) {
                CHECKS.same("mark(" + k + ") behind " + text + ", " + answer, MacroForge.NONE,
                        forge.mark(k));
            }
            CHECKS.same("depth() behind " + text + ", " + answer, 0, forge.depth());
            Checks.expand(forge, "(", 0);
            CHECKS.same("none behind what is no term, either", "-99 0", forge.mark(0) + " "
                    + forge.depth());
        }
    }

    private static void resultOfBeforeStays() {
        CHECKS.sentence("but for IllegalArgumentException: then that of before stays.");
        MacroForge forge = Checks.forge("(m)=((7))");
        Checks.expand(forge, "((m) 1)", 1);
        String[][] wrong = {{"", "0"}, {"(", "0"}, {"(1 2", "0"}, {"(1 2 3 4))", "12"}, {"8", "-1"},
            {"8", "13"}, {"(8", "13"}, {"((m) 8)", "2147483647"}, {"()", "-2147483648"}};
        for (String[] call : wrong) {
            CHECKS.same("expand of " + call[0], Checks.ILLEGAL_ARGUMENT,
                    Checks.expand(forge, call[0], Integer.parseInt(call[1])));
            CHECKS.same("the result behind " + call[0] + " and fuel " + call[1],
                    "1 1 1 17 2 2 11 2 | 3 1", Checks.marks(forge) + " | " + forge.depth() + " "
                    + forge.replaced());
        }
        Checks.rule(forge, "(m");
        CHECKS.same("the result behind no rule", "1 1 1 17 2 2 11 2 | 3 1", Checks.marks(forge)
                + " | " + forge.depth() + " " + forge.replaced());
    }
}
