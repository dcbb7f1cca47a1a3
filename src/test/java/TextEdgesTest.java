/** Section "Terms": what texts are terms, rules, patterns and templates, a test a sentence. */
final class TextEdgesTest {
    private static final Checks CHECKS = new Checks();
    private static final int NO_TERM = Integer.MIN_VALUE;

    public static void main(String[] args) {
        CHECKS.sentences(TextEdgesTest::signs, TextEdgesTest::emptyLists, TextEdgesTest::deepLists,
                TextEdgesTest::blanks, TextEdgesTest::threeParts, TextEdgesTest::macros,
                TextEdgesTest::patternItems, TextEdgesTest::repeatedPatternItems,
                TextEdgesTest::anyNumberOfItems, TextEdgesTest::variablesOnce,
                TextEdgesTest::singlesAndManys, TextEdgesTest::repeatedTemplateItems,
                TextEdgesTest::manysInTemplates);
        CHECKS.end();
    }

    /** The mark that a term of one sign has behind Q; NO_TERM if the sign is none. */
    private static int quoted(char c) {
        if (c >= 'a' && c <= 'z') {
            return 100 + c - 'a';
        }
        if (c >= '0' && c <= '9') {
            return 10 + c - '0';
        }
        return c == 'L' ? -1 : c == 'I' ? -2 : c == 'Q' ? -3 : NO_TERM;
    }

    private static void signs() {
        CHECKS.sentence("A TERM is a NAME a .. z, a NUMERAL 0 .. 9, a KEYWORD L, I or Q, or a LIST");
        for (char c = 32; c <= 126; c++) {
            int mark = quoted(c);
            boolean isTerm = mark != NO_TERM;
            String alone = mark > 0 ? String.valueOf(mark) : Checks.ILLEGAL_STATE;
            CHECKS.expands("" + c, 0, isTerm ? alone : Checks.ILLEGAL_ARGUMENT);
            String item = mark > 0 ? "1 " + mark + " 2" : Checks.ILLEGAL_STATE;
            CHECKS.expands("(" + c + ")", 0, isTerm || c == ' ' ? item : Checks.ILLEGAL_ARGUMENT);
            String behindQ = c == ' ' ? Checks.ILLEGAL_STATE : "1 5 " + mark + " 2";
            CHECKS.expands("(Q" + c + ")", 0,
                    isTerm || c == ' ' ? behindQ : Checks.ILLEGAL_ARGUMENT);
            isRule(isTerm, "(m)=" + c);
            isRule(isTerm || c == ' ', "(m)=(" + c + ")");
        }
    }

    private static void isRule(boolean due, String text) {
        if (due) {
            CHECKS.areRules(text);
        } else {
            CHECKS.areNoRules(text);
        }
    }

    private static void emptyLists() {
        CHECKS.sentence("terms in ( and ), perhaps none");
        CHECKS.expands("(Q())", 0, "1 5 1 2 2");
        CHECKS.expands("(Q(()()))", 0, "1 5 1 1 2 1 2 2 2");
        // It is a term, so it is malformed.
        CHECKS.expands("()", 0, Checks.ILLEGAL_STATE);
        CHECKS.areRules("(m)=()", "(m())=1", "(m)=(()())");
        for (String text : new String[] {"(", ")", ")(", "(()", "())", "(a", "a)", "()()"}) {
            CHECKS.expands(text, 0, Checks.ILLEGAL_ARGUMENT);
        }
    }

    private static void deepLists() {
        CHECKS.sentence("lists in lists at most 8 deep (a list that is no item of another one is 1"
                + " deep)");
        for (int lists = 1; lists <= 25; lists++) {
            boolean fits = lists <= 8;
            CHECKS.expands(Checks.nest(lists, "a"), 0,
                    fits ? Checks.nestMarks(lists, "100") : Checks.ILLEGAL_ARGUMENT);
            CHECKS.expands("(Q" + Checks.nest(lists - 1, "a") + ")", 0,
                    fits ? "1 5 " + Checks.nestMarks(lists - 1, "100") + " 2"
                            : Checks.ILLEGAL_ARGUMENT);
            CHECKS.expands(Checks.nest(lists, ""), 0,
                    fits ? Checks.ILLEGAL_STATE : Checks.ILLEGAL_ARGUMENT);
            isRule(fits, "(m)=" + Checks.nest(lists, "1"));
            isRule(fits, "(m" + Checks.nest(lists - 1, "1") + ")=1");
            isRule(fits, "(m" + Checks.nest(lists - 1, "x~") + ")=1");
        }
        // A list that is closed makes none behind it deeper.
        CHECKS.expands(Checks.nest(1, Checks.nest(7, "a") + Checks.nest(7, "b")), 0,
                "1 " + Checks.nestMarks(7, "100") + " " + Checks.nestMarks(7, "101") + " 2");
        CHECKS.expands(Checks.nest(1, Checks.nest(7, "a") + Checks.nest(8, "b")), 0,
                Checks.ILLEGAL_ARGUMENT);
        CHECKS.expands(Checks.nest(1, "(a)".repeat(10)), 0, "1" + " 1 100 2".repeat(10) + " 2");
        // Neither does a pattern its template.
        CHECKS.areRules("(m" + Checks.nest(7, "1") + ")=" + Checks.nest(8, "1"));
        CHECKS.areNoRules("(m" + Checks.nest(7, "1") + ")=" + Checks.nest(9, "1"));
    }

    private static void blanks() {
        CHECKS.sentence("Blanks in texts mean nothing.");
        for (String text : new String[] {"(a1(b))", " (a1(b))", "(a1(b)) ", "( a 1 ( b ) )",
            "   (a   1(b   ))  "}) {
            CHECKS.expands(text, 0, "1 100 11 1 101 2 2");
        }
        for (String rule : new String[] {"(m(x~)_)=(x~1)", " ( m ( x ~ ) _ ) = ( x ~ 1 ) ",
            "(m (x ~) _)  =  (x ~1)"}) {
            CHECKS.expands("(m(23)4)", 1, "1 12 13 11 2", rule);
            CHECKS.expands(" ( m ( 2 3 ) 4 ) ", 1, "1 12 13 11 2", rule);
        }
        CHECKS.expands("( " + "1 ".repeat(28) + ") ", 0, "1" + " 11".repeat(28) + " 2");
        CHECKS.expands(" (" + " 1".repeat(28) + " )", 0, "1" + " 11".repeat(28) + " 2");
        CHECKS.expands(" ".repeat(59) + "7", 0, "17");
        CHECKS.expands("7" + " ".repeat(59), 0, "17");
        for (int blanks = 0; blanks <= 60; blanks++) {
            CHECKS.expands(" ".repeat(blanks), 0, Checks.ILLEGAL_ARGUMENT);
            CHECKS.areNoRules(" ".repeat(blanks));
        }
        CHECKS.expands("1 2", 0, Checks.ILLEGAL_ARGUMENT);
        CHECKS.areNoRules("( m)=1 2", "( m)( n)=1");
    }

    private static void threeParts() {
        CHECKS.sentence("A RULE is a text: a PATTERN, =, a TEMPLATE.");
        CHECKS.areRules("(m)=1", "(m)=a", "(m)=(1)", "(m x)=x");
        CHECKS.areNoRules("", "=", "==", "(m)", "(m)=", "=1", "=(m)", "(m)1", "(m)==1", "(m)=1=",
                "(m)=1=1", "=(m)=1", "(m=)1", "(m)=(=)", "(m)(n)=1", "1(m)=1", "(m)1=1", "(m)=12",
                "(m)=(1", "(m)=1)", "(m)=(1))", "(m=1", "m)=1", "((m)=1", "(m))=1", "(m)=()()");
    }

    private static void macros() {
        CHECKS.sentence("The pattern is a list that begins with a name, its MACRO");
        for (char c = 'a'; c <= 'z'; c++) {
            CHECKS.expands("(" + c + ")", 1, "17", "(" + c + ")=7");
        }
        CHECKS.areNoRules("()=1", "m=1", "1=1", "L=1", "_=1", "~=1", "(_)=1", "(_ m)=1", "((m))=1",
                "((m)x)=1", "(())=1", "(0 m)=1", "(9)=1", "(L)=1", "(I x)=1", "(Q m)=1", "(A)=1");
    }

    private static void patternItems() {
        CHECKS.sentence("the other items of a pattern list (items of the lists in it, too) are"
                + " names, numerals, keywords, _, or lists");
        for (char c = 32; c <= 126; c++) {
            boolean isItem = quoted(c) != NO_TERM || c == '_' || c == ' ';
            isRule(isItem, "(m" + c + ")=1");
            isRule(isItem, "(m(" + c + "))=1");
            isRule(isItem, "(m(1(" + c + ")))=1");
        }
        CHECKS.areRules("(m x 0 9 L I Q _ () (y 0 9 L I Q _ () (z)))=1");
        // They are such only there: _ is in no template and in no text.
        CHECKS.areNoRules("(m)=_", "(m)=(_)", "(m _)=_", "(m _)=((_))", "(m _~)=(_~)");
        CHECKS.expands("_", 0, Checks.ILLEGAL_ARGUMENT);
        CHECKS.expands("(m _)", 1, Checks.ILLEGAL_ARGUMENT, "(m _)=1");
    }

    private static void repeatedPatternItems() {
        CHECKS.sentence("behind the last item of a list (but behind the macro itself) there may be a"
                + " ~, if there is no ~ in the item");
        CHECKS.areRules("(m x~)=1", "(m _~)=1", "(m 1~)=1", "(m L~)=1", "(m ()~)=1", "(m (x)~)=1",
                "(m x y~)=1", "(m (x~))=1", "(m (x~) y)=1", "(m (x y~) z~)=1", "(m ((x~)))=1",
                "(m ((x~) y) z)=1", "(m ((1 (x)) y)~)=1", "(m (x~) (y~) (z~))=1");
        // Behind the macro.
        CHECKS.areNoRules("(m~)=1", "(m~ x)=1", "(m~ x~)=1");
        // Behind an item that is not the last one.
        CHECKS.areNoRules("(m x~ y)=1", "(m x~ y~)=1", "(m (x~ y))=1", "(m ((x~ y)))=1",
                "(m (x)~ y)=1", "(m (x~ y) z)=1", "(m 1~ 1)=1", "(m _~ _)=1", "(m ()~ ())=1");
        // Behind an item with a ~ in it.
        CHECKS.areNoRules("(m x~~)=1", "(m (x~)~)=1", "(m (1 (x~))~)=1", "(m ((x~) y)~)=1",
                "(m (() (1~) y)~)=1", "(m ((_~))~)=1");
        // Behind no item, or none of a list.
        CHECKS.areNoRules("(~)=1", "(~m)=1", "(m ~)=1", "(m ~x)=1", "(m (~))=1", "(m (~x))=1",
                "~(m)=1", "(m)~=1", "(m x)~=1", "(m x~)~=1");
    }

    private static void anyNumberOfItems() {
        CHECKS.sentence("then it stands for any number of such items, also none");
        for (int n = 0; n <= 57; n++) {
            CHECKS.expands("(m" + "1".repeat(n) + ")", 1, "1 5 1" + " 11".repeat(n) + " 2 2",
                    "(m x~)=(Q(x~))");
            CHECKS.expands("(m" + "1".repeat(n) + ")", 1, "17", "(m 1~)=7");
        }
        for (int n = 0; n <= 55; n++) {
            CHECKS.expands("(m(" + "1".repeat(n) + "))", 1, "1 5 1" + " 11".repeat(n) + " 2 2",
                    "(m(x~))=(Q(x~))");
        }
        for (int n = 0; n <= 18; n++) {
            CHECKS.expands("(m" + "(1)".repeat(n) + ")", 1, "1 5 1" + " 11".repeat(n) + " 2 2",
                    "(m(x)~)=(Q(x~))");
        }
    }

    private static void variablesOnce() {
        CHECKS.sentence("The names but the macro are VARIABLES, each there once");
        CHECKS.areNoRules("(m x x)=1", "(m x (x))=1", "(m (x) x)=1", "(m (x x))=1", "(m x x~)=1",
                "(m x (x~))=1", "(m (x~) x)=1", "(m (x~) (x~))=1", "(m (x x)~)=1",
                "(m ((x)) ((x)))=1", "(m a a)=1", "(m z z)=1", "(m x y x)=1",
                "(m x (1 (y (x))))=1");
        CHECKS.areRules("(m x y)=1", "(m x (y))=1", "(m 1 1 L L _ _ () () (1) (1))=1");
        // A template is free to have one more often, or not at all.
        CHECKS.areRules("(m x)=(x x (x))", "(m x)=1");
        CHECKS.expands("(m 0 1 2 3 4 5 6 7 8 9 a b c d e f g h i j k l m n o)", 1,
                "1 10 19 100 110 114 2", "(m a b c d e f g h i j k l n o p q r s t u v w x y z)="
                .replace(" ", "") + "(a j k v z)");
    }

    private static void singlesAndManys() {
        CHECKS.sentence("one in an item with ~ is a MANY, the others are SINGLE.");
        CHECKS.areRules("(m x y~)=(x y~)", "(m (x (y))~)=(x~ y~)", "(m (x (y)) z~)=(x y z~)",
                "(m (x~) y)=(x~ y)", "(m ((x)~) y)=(x~ y)", "(m x (y z~) w)=(x y z~ w)");
        CHECKS.areNoRules("(m x y~)=(y)", "(m x y~)=(x~)", "(m (x (y))~)=(y)", "(m (x (y))~)=(x)",
                "(m (x (y)) z~)=(x~)", "(m (x (y)) z~)=(y~)", "(m (x (y)) z~)=(z)",
                "(m (x~) y)=(y~)", "(m (x~) y)=(x)", "(m ((x)~) y)=(y~)", "(m x (y z~) w)=(y~)",
                "(m x (y z~) w)=(w~)");
    }

    private static void repeatedTemplateItems() {
        CHECKS.sentence("The template is a term in which behind each item of a list there may be a"
                + " ~, if there is no ~ in the item and some MANY is");
        CHECKS.areRules("(m x~)=(x~)", "(m x~)=(x~ 1)", "(m x~)=(1 x~)", "(m x~)=(x~ 1 x~ x~)",
                "(m x~)=((x)~)", "(m x~)=((1 (2 x))~ (x~) 3)", "(m x y~)=((x y)~)",
                "(m x~)=((((x~))))", "(m (x~) (y~))=((x y 1 z)~)");
        // Behind no item, or none of a list.
        CHECKS.areNoRules("(m x~)=x~", "(m x~)=(x)~", "(m x~)=(x~)~", "(m x~)=(~)", "(m x~)=(~x)",
                "(m x~)=(1 (~) x~)", "(m x~)=~", "(m x~)=~(x~)");
        // Behind an item with a ~ in it.
        CHECKS.areNoRules("(m x~)=(x~~)", "(m x~)=((x~)~)", "(m x~)=((1 (x~))~)",
                "(m x~)=((x (x~))~)", "(m x~)=((x~ x)~)", "(m (x~) (y~))=((x y~)~)");
        // Behind an item without a MANY.
        CHECKS.areNoRules("(m)=(1~)", "(m x~)=(1~)", "(m x~)=(L~)", "(m x~)=(()~)", "(m x~)=((1)~)",
                "(m x~)=(y~)", "(m x)=(x~)", "(m x y~)=(x~ y~)", "(m x y~)=((x)~ y~)", "(m)=(m~)",
                "(m x~)=((1)~ x~)");
    }

    private static void manysInTemplates() {
        CHECKS.sentence("a MANY stands only in items with ~ (or is one).");
        CHECKS.areRules("(m x~)=1", "(m x~)=(x~)", "(m x~)=((x)~)", "(m x~)=(((x) x)~)",
                "(m x~)=((x~) (x~))", "(m x~)=(L t (x~))");
        CHECKS.areNoRules("(m x~)=x", "(m x~)=(x)", "(m x~)=((x))", "(m x~)=(x~ x)",
                "(m x~)=(x x~)", "(m x~)=((x~) x)", "(m x~)=((x)~ x)", "(m x~)=(1 (2 x) x~)",
                "(m x~)=(L x 1)", "(m (x~))=(Q x)", "(m (x~) y~)=(x~ y)", "(m (x~) y~)=(x y~)");
    }
}
