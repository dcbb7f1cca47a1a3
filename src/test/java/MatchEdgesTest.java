/** Section "Terms": what matches, and what a use is replaced by, a test a sentence. */
final class MatchEdgesTest {
    private static final Checks CHECKS = new Checks();
    private static final String[] TERMS = {"0", "1", "9", "L", "I", "Q", "a", "l", "m", "z", "()",
        "(0)", "(L)", "(a b)", "((()))"};

    public static void main(String[] args) {
        CHECKS.sentences(MatchEdgesTest::anyTerm, MatchEdgesTest::sameSign,
                MatchEdgesTest::asManyItems, MatchEdgesTest::atLeastAsManyItems,
                MatchEdgesTest::itemsThatAreLeft, MatchEdgesTest::macroIsNotLookedAt,
                MatchEdgesTest::firstOfItsRules, MatchEdgesTest::singles, MatchEdgesTest::copies,
                MatchEdgesTest::equallyMany, MatchEdgesTest::placesOfCopies,
                MatchEdgesTest::newNames, MatchEdgesTest::marksAreKept);
        CHECKS.end();
    }

    private static void matches(boolean due, String pattern, String use) {
        CHECKS.expands(use, 1, due ? "17" : Checks.ILLEGAL_STATE, pattern + "=7");
    }

    private static void anyTerm() {
        CHECKS.sentence("a variable or _ any");
        for (String term : TERMS) {
            for (String any : new String[] {"x", "a", "z", "_"}) {
                matches(true, "(m " + any + ")", "(m " + term + ")");
                matches(true, "(m (1 " + any + "))", "(m (1 " + term + "))");
                matches(true, "(m " + any + "~)", "(m " + term + " " + term + ")");
            }
        }
    }

    private static void sameSign() {
        CHECKS.sentence("a numeral or keyword the same");
        for (char c : "0123456789LIQ".toCharArray()) {
            for (char d : "0123456789LIQ".toCharArray()) {
                matches(c == d, "(m " + c + ")", "(m " + d + ")");
                matches(c == d, "(m (" + c + "))", "(m (" + d + "))");
            }
            for (String other : new String[] {"a", "l", "i", "q", "()", "(" + c + ")"}) {
                matches(false, "(m " + c + ")", "(m " + other + ")");
            }
        }
    }

    private static void asManyItems() {
        CHECKS.sentence("a list a list with as many items, each matching (without ~)");
        for (int items = 0; items <= 4; items++) {
            for (int there = 0; there <= 6; there++) {
                matches(items == there, "(m" + "1".repeat(items) + ")",
                        "(m" + "1".repeat(there) + ")");
                matches(items == there, "(m(" + "_".repeat(items) + "))",
                        "(m(" + "1".repeat(there) + "))");
                matches(items == there, "(m(" + "_".repeat(items) + ")2)",
                        "(m(" + "1".repeat(there) + ")2)");
            }
        }
        for (String use : new String[] {"(m 0 2 3)", "(m 1 0 3)", "(m 1 2 0)"}) {
            matches(false, "(m 1 2 3)", use);
            matches(false, "(m (1 2 3))", "(m (" + use.substring(2) + ")");
        }
        for (String term : new String[] {"1", "a", "L", "Q"}) {
            matches(false, "(m ())", "(m " + term + ")");
            matches(false, "(m (_))", "(m " + term + ")");
            matches(false, "(m (_~))", "(m " + term + ")");
        }
        matches(true, "(m (1 (2 (3 ()))))", "(m (1 (2 (3 ()))))");
        matches(false, "(m (1 (2 (3 ()))))", "(m (1 (2 (3 (4)))))");
        matches(false, "(m (1 (2 (3 ()))))", "(m (1 (2 (3 4))))");
    }

    private static void atLeastAsManyItems() {
        CHECKS.sentence("or with ~ with at least as many as there are items without it");
        for (int items = 0; items <= 4; items++) {
            for (int there = 0; there <= 6; there++) {
                boolean due = there >= items;
                matches(due, "(m" + "1".repeat(items) + "1~)", "(m" + "1".repeat(there) + ")");
                matches(due, "(m(" + "_".repeat(items) + "_~))", "(m(" + "1".repeat(there) + "))");
                matches(due, "(m(" + "_".repeat(items) + "(_)~)2)", "(m(" + "1".repeat(
                        Math.min(there, items)) + "(1)".repeat(Math.max(0, there - items)) + ")2)");
            }
        }
    }

    private static void itemsThatAreLeft() {
        CHECKS.sentence("the last pattern item matching each of those that are left");
        matches(true, "(m 0 1~)", "(m 0 1 1 1)");
        matches(false, "(m 0 1~)", "(m 0 2 1 1)");
        matches(false, "(m 0 1~)", "(m 0 1 2 1)");
        matches(false, "(m 0 1~)", "(m 0 1 1 2)");
        matches(false, "(m 0 1~)", "(m 1 1 1 1)");
        matches(true, "(m (0 (1 _)~))", "(m (0 (1 2) (1 ()) (1 1)))");
        matches(false, "(m (0 (1 _)~))", "(m (0 (1 2) (1) (1 1)))");
        matches(false, "(m (0 (1 _)~))", "(m (0 (1 2) (1 2) 1))");
        matches(false, "(m (0 (1 _)~))", "(m (0 (1 2) (1 2) (2 1)))");
        matches(false, "(m (0 (1 _)~) 3)", "(m (0 (1 2) (1 2)) 4)");
        // A list with ~ in a list that is the last one.
        matches(true, "(m (1~) (2~))", "(m (1 1) (2))");
        matches(false, "(m (1~) (2~))", "(m (1 2) (2))");
        matches(false, "(m (1~) (2~))", "(m (1 1) (2 1))");
    }

    private static void macroIsNotLookedAt() {
        CHECKS.sentence("(The macro isn't looked at.)");
        // What a rule brings in, or a variable stands for, has marks that no pattern has.
        CHECKS.expands("(m)", 2, "12", "(m)=(n)", "(n)=2");
        CHECKS.expands("(m n)", 2, "12", "(m x)=(x)", "(n)=2");
        CHECKS.expands("(m)", 3, "12", "(m)=(o n)", "(o x)=(x)", "(n)=2");
        // It is nothing that ~ stands for, and no item that is counted.
        matches(true, "(m m~)", "(m)");
        matches(false, "(m 1 1~)", "(m)");
        matches(false, "(m 1)", "(m)");
        CHECKS.expands("(m 1 2)", 1, "1 11 12 2", "(m m~)=(m~)");
    }

    private static void firstOfItsRules() {
        CHECKS.sentence("A USE of a macro is REPLACED by the first of its rules, in the order in"
                + " which they were told, whose pattern matches it");
        String[] rules = {"(m 1)=1", "(n 2)=9", "(m 2)=2", "(m x)=3", "(m 1)=4", "(m _ _)=5",
            "(m x y)=6", "(m x~)=7", "(n x)=8"};
        CHECKS.expands("(m 1)", 1, "11", rules);
        CHECKS.expands("(m 2)", 1, "12", rules);
        CHECKS.expands("(m 3)", 1, "13", rules);
        CHECKS.expands("(m 1 1)", 1, "15", rules);
        CHECKS.expands("(m)", 1, "17", rules);
        CHECKS.expands("(m 1 1 1)", 1, "17", rules);
        CHECKS.expands("(n 2)", 1, "19", rules);
        CHECKS.expands("(n 1)", 1, "18", rules);
        // What a rule that didn't match had found is forgotten.
        CHECKS.expands("(m 3 4 5)", 1, "1 13 14 15 2", "(m x y 6~)=1", "(m x~)=(x~)");
        CHECKS.expands("(m (3 4) 5)", 1, "1 13 14 2", "(m (x~) 6)=1", "(m (x~) 5)=(x~)");
        CHECKS.expands("(m 3 4)", 1, "1 14 13 2", "(m x 5)=1", "(m y x)=(x y)");

        // All of twelve, and those that are told when others were forgotten.
        MacroForge forge = new MacroForge();
        for (int n = 0; n < 12; n++) {
            Checks.rule(forge, "(" + (n % 2 == 0 ? "m" : "n") + "1".repeat(n) + ")=" + n % 10);
        }
        for (int n = 0; n < 12; n++) {
            String macro = n % 2 == 0 ? "m" : "n";
            CHECKS.same("rule " + n + " of 12", "1" + n % 10,
                    Checks.expand(forge, "(" + macro + "1".repeat(n) + ")", 1));
        }
        forge.forget('m');
        Checks.rule(forge, "(n _)=8");
        Checks.rule(forge, "(n x~)=9");
        CHECKS.same("an older one first", "11", Checks.expand(forge, "(n 1)", 1));
        CHECKS.same("then the newer one", "18", Checks.expand(forge, "(n 2)", 1));
        CHECKS.same("then the newest one", "19", Checks.expand(forge, "(n 2 2)", 1));
    }

    private static void singles() {
        CHECKS.sentence("by the template, in which each SINGLE stands for what it matched");
        CHECKS.expands("(m 1 2)", 1, "1 12 1 11 12 2 11 2", "(m x y)=(y (x y) x)");
        CHECKS.expands("(m (1 (2)))", 1, "1 11 1 12 2 2", "(m x)=x");
        CHECKS.expands("(m (1 (2)))", 1, "1 1 12 2 11 2", "(m (x y))=(y x)");
        CHECKS.expands("(m Q ())", 1, "1 5 1 2 2", "(m x y)=(x y)");
        CHECKS.expands("(m 5 1 2)", 1, "1 1 15 11 2 1 15 12 2 2", "(m x y~)=((x y)~)");
        CHECKS.expands("(m 5)", 1, "1 10 2", "(m x y~)=(0 (x y)~)");
        CHECKS.expands("(m a)", 1, "1 3 200 2", "(m x)=(L x x)");
        CHECKS.expands("(m 1)", 1, "17", "(m x)=7");
    }

    private static void copies() {
        CHECKS.sentence("an item with ~ stands for as many copies as there are terms that its MANYs"
                + " matched");
        for (int n = 0; n <= 20; n++) {
            String use = "(m" + "1".repeat(n) + ")";
            CHECKS.expands(use, 1, "1 10" + " 11".repeat(n) + " 2", "(m x~)=(0 x~)");
            CHECKS.expands(use, 1, "1" + " 11".repeat(n) + " 10" + " 11".repeat(n) + " 2",
                    "(m x~)=(x~ 0 x~)");
            if (n <= 14) {
                CHECKS.expands(use, 1, "1 10" + " 1 12 11 11 2".repeat(n) + " 2",
                        "(m x~)=(0 (2 x x)~)");
            }
        }
        CHECKS.expands("(m)", 1, Checks.ILLEGAL_STATE, "(m x~)=(x~)");
        CHECKS.expands("(m (1 2 3) 4)", 1, "1 11 12 13 10 14 2", "(m (x~) y~)=(x~ 0 y~)");
        // A copy within a list within a list.
        CHECKS.expands("(m 1 2)", 1, "1 10 1 10 11 12 2 2", "(m x~)=(0 (0 x~))");
    }

    private static void equallyMany() {
        CHECKS.sentence("(all of them must have matched equally many)");
        for (int one = 0; one <= 4; one++) {
            for (int other = 0; other <= 4; other++) {
                String use = "(m (" + "1".repeat(one) + ") (" + "2".repeat(other) + "))";
                CHECKS.expands(use, 1, one != other ? Checks.ILLEGAL_STATE
                        : "1 10" + " 1 11 12 2".repeat(one) + " 2", "(m (x~) (y~))=(0 (x y)~)");
                CHECKS.expands(use, 1, one != other ? Checks.ILLEGAL_STATE
                        : "1 10" + " 1 12 1 11 2 2".repeat(one) + " 2",
                        "(m (x~) (y~))=(0 (y (x))~)");
                // In items of their own they need not.
                CHECKS.expands(use, 1, "1 10" + " 11".repeat(one) + " 12".repeat(other) + " 2",
                        "(m (x~) (y~))=(0 x~ y~)");
            }
        }
        // The last of three, and an item that isn't the first one.
        CHECKS.expands("(m (1) (2) ())", 1, Checks.ILLEGAL_STATE, "(m (x~)(y~)(z~))=(0 (x y z)~)");
        CHECKS.expands("(m (1) (2) ())", 1, Checks.ILLEGAL_STATE,
                "(m (x~)(y~)(z~))=(0 (x y)~ (x z)~)");
        CHECKS.expands("(m (1) (2) ())", 1, Checks.ILLEGAL_STATE,
                "(m (x~)(y~)(z~))=(0 (1 ((y z)~)))");
        CHECKS.expands("(m (1) (2) ())", 1, "1 10 1 11 12 2 2", "(m (x~)(y~)(z~))=(0 (x y)~ z~)");
        // A rule that matches so is the one, though others would do.
        CHECKS.expands("(m (1) ())", 1, Checks.ILLEGAL_STATE, "(m (x~) (y~))=((x y)~)", "(m _~)=7");
    }

    private static void placesOfCopies() {
        CHECKS.sentence("in the n-th copy each MANY being what it matched in the n-th item");
        CHECKS.expands("(m 1 2 3 4)", 1, "1 11 12 13 14 2", "(m x~)=(x~)");
        CHECKS.expands("(m (1 2) (3 4) (5 6))", 1, "1 1 12 11 2 1 14 13 2 1 16 15 2 2",
                "(m (x y)~)=((y x)~)");
        CHECKS.expands("(m (1 2) (3 4) (5 6))", 1, "1 11 13 15 12 14 16 2",
                "(m (x y)~)=(x~ y~)");
        CHECKS.expands("(m (1 2 3) (4 5 6))", 1, "1 1 11 14 2 1 12 15 2 1 13 16 2 2",
                "(m (x~) (y~))=((x y)~)");
        CHECKS.expands("(m ((1 (2)) (3 (4))))", 1, "1 1 12 11 12 2 1 14 13 14 2 2",
                "(m ((x (y))~))=((y x y)~)");
        CHECKS.expands("(m (1 2) (3 4))", 1, "1 1 1 11 2 1 12 2 2 1 1 13 2 1 14 2 2 2",
                "(m (x~) (y~))=(((x)~) ((y)~))");
    }

    private static void newNames() {
        CHECKS.sentence("all other names are NEW there: marked by the number of this replacement (1,"
                + " 2, ..), while names of a text that is expanded have no mark.");
        // A new name doesn't meet one of the text, be that bound outside or inside.
        CHECKS.expands("(L t (m))", 1, "1 3 119 2", "(m)=t");
        CHECKS.expands("(m t)", 1, "1 3 119 2", "(m x)=(L t x)");
        CHECKS.expands("(m t)", 1, "1 3 1 200 119 2 2", "(m x)=(L t (t x))");
        // Nor one of another replacement by the same rule.
        CHECKS.expands("(m (m t))", 2, "1 3 1 200 1 3 1 201 119 2 2 2 2", "(m x)=(L t (t x))");
        CHECKS.expands("(m)", 2, "1 3 119 2", "(m)=(L t (n))", "(n)=t");
        // The names of one replacement meet, in all copies too.
        CHECKS.expands("(m 1 2)", 1, "1 3 1 1 200 11 2 1 200 12 2 2 2", "(m x~)=(L t ((t x)~))");
        CHECKS.expands("(m)", 1, "1 3 1 3 1 201 200 2 2 2", "(m)=(L t (L u (u t)))");
        eachNumber();
    }

    /** Each of twelve replacements brings in a t of its own. */
    private static void eachNumber() {
        StringBuilder levels = new StringBuilder();
        for (int n = 1; n <= 10; n++) {
            levels.append(' ').append(199 + n);
            String text = "(m () " + "1".repeat(n) + ")";
            CHECKS.expands(text, n + 1, "1 3 ".repeat(n) + "1" + levels + " 2" + " 2".repeat(n),
                    "(m (x~) _ y~)=(L t (m (x~ t) y~))", "(m x)=x");
        }
        for (int n = 0; n <= 10; n++) {
            CHECKS.expands("(m () 11111111111)", 12, "1 3 ".repeat(11) + (200 + n)
                    + " 2".repeat(11), "(m (x~) _ y~)=(L t (m (x~ t) y~))",
                    "(m (" + "_".repeat(n) + "x _~))=x");
            CHECKS.expands("(1" + "(n)".repeat(n) + "(m))", 12, "1 11" + " 12".repeat(n)
                    + " 1 3 1 3 1 200 201 2 2 2 2", "(n)=2", "(m)=(L t (o t))",
                    "(o x)=(L t (x t))");
        }
    }

    private static void marksAreKept() {
        CHECKS.sentence("(What was matched keeps its marks.)");
        CHECKS.expands("(m)", 2, "1 3 200 2", "(m)=(L t (n t))", "(n x)=x");
        CHECKS.expands("(m)", 2, "1 3 1 3 200 2 2", "(m)=(L t (n t))", "(n x)=(L t x)");
        CHECKS.expands("(m)", 2, "1 3 1 3 1 200 201 2 2 2", "(m)=(L t (n t))", "(n x)=(L t (x t))");
        CHECKS.expands("(m)", 3, "1 3 200 2", "(m)=(L t (n t))", "(n x)=(o (x))", "(o (x))=x");
        CHECKS.expands("(m)", 2, "1 3 1 200 10 2 2", "(m)=(n t (t 0))", "(n x y)=(L x y)");
        CHECKS.expands("(L t (m t))", 2, "1 3 200 2", "(m x)=(n x)", "(n x)=x");
        CHECKS.expands("(L t (m (t) t))", 1, "1 3 1 1 200 2 200 2 2", "(m x~)=(x~)");
    }
}
