import java.util.Arrays;

/**
 * A forge for macros: rules that match terms and put others in their place are expanded until only
 * core forms are left, and names that a rule brings in never meet those that were there.
 */
public final class MacroForge {
    public static final int NONE = -99;

    private static final int MOST_FUEL = 12;
    private static final int LETTERS = 26;
    private static final char LIST = '(';

    private final Draft draft = new Draft();
    private final RuleBook book = new RuleBook();
    private final Expansion expansion = new Expansion();

    public MacroForge() {
    }

    public boolean type(char c) {
        return draft.put(c);
    }

    public int rule() throws IllegalArgumentException, UnsupportedOperationException {
        boolean isRule = book.read(draft);
        draft.clear();
        if (!isRule) {
            throw new IllegalArgumentException("the draft is no rule");
        }
        if (book.isFull()) {
            throw new UnsupportedOperationException("there are 12 rules");
        }
        return book.keep();
    }

    public int forget(char macro) {
        return book.drop(macro);
    }

    public int rules() {
        return book.size();
    }

    public int expand(int fuel)
            throws IllegalArgumentException, IllegalStateException, UnsupportedOperationException {
        boolean isTerm = expansion.read(draft);
        draft.clear();
        if (!isTerm || fuel < 0 || fuel > MOST_FUEL) {
            throw new IllegalArgumentException("the draft is no term, or the fuel is not 0 .. 12");
        }
        return expansion.run(book, fuel);
    }

    public int replaced() {
        return expansion.made();
    }

    public int mark(int k) {
        return expansion.result().at(k);
    }

    public int depth() {
        return expansion.result().deepest();
    }

    private static boolean isName(char c) {
        return c >= 'a' && c <= 'z';
    }

    private static boolean isNumeral(char c) {
        return c >= '0' && c <= '9';
    }

    private static boolean isKeyword(char c) {
        return c == 'L' || c == 'I' || c == 'Q';
    }

    /** What was typed. Blanks are counted but not kept, for they mean nothing in any text. */
    private static final class Draft {
        static final int LONGEST = 60;

        private final char[] signs = new char[LONGEST];
        private int length;
        private int typed;

        boolean put(char c) {
            if (c < 32 || c > 126 || typed >= LONGEST) {
                return false;
            }
            typed++;
            if (c != ' ') {
                signs[length] = c;
                length++;
            }
            return true;
        }

        void clear() {
            length = 0;
            typed = 0;
        }

        int length() {
            return length;
        }

        /** The sign at a place; a blank, which no text holds, where there is none. */
        char at(int place) {
            return place >= 0 && place < length ? signs[place] : ' ';
        }

        /** Where a sign stands first; the text's length if it doesn't. */
        int find(char sign) {
            for (int i = 0; i < length; i++) {
                if (signs[i] == sign) {
                    return i;
                }
            }
            return length;
        }
    }

    /**
     * Terms in one row of nodes: a list's node comes first and its items' nodes follow it, so that
     * the nodes of each term lie side by side and their number is the term's size.
     */
    private static final class Terms {
        static final int LARGEST = 60;
        static final int PLAIN = 0;
        static final int PATTERN = 1;
        static final int TEMPLATE = 2;
        static final int DEEPEST_READ = 8;
        static final int DEEPEST_MADE = 12;

        private final char[] sign;
        private final int[] stamp;
        private final int[] span;
        private final int[] items;
        private final boolean[] repeated;
        private final int[] open = new int[DEEPEST_MADE];
        private int size;
        private int start;
        private int deep;
        private int deepest;
        private int last;

        Terms(int capacity) {
            sign = new char[capacity];
            stamp = new int[capacity];
            span = new int[capacity];
            items = new int[capacity];
            repeated = new boolean[capacity];
        }

        int size() {
            return size;
        }

        char sign(int node) {
            return sign[node];
        }

        /** The number of the replacement that brought a name in; 0 if none did. */
        int stamp(int node) {
            return stamp[node];
        }

        int items(int node) {
            return items[node];
        }

        boolean isRepeated(int node) {
            return repeated[node];
        }

        /** The first node behind all those of a term. */
        int after(int node) {
            return node + span[node];
        }

        void clear() {
            size = 0;
        }

        /** Begins a term behind those that are there: its first node. */
        int begin(int deepestList) {
            start = size;
            deep = 0;
            deepest = deepestList;
            last = -1;
            return start;
        }

        /** Reads a part of a text as one term of a kind; false if it is none. */
        boolean read(Draft text, int from, int to, int kind) {
            begin(DEEPEST_READ);
            for (int i = from; i < to; i++) {
                if (!take(text.at(i), kind)) {
                    return false;
                }
            }
            return deep == 0 && size > start;
        }

        private boolean take(char c, int kind) {
            if (c == ')') {
                return close();
            }
            if (c == '~') {
                return kind != PLAIN && repeatLast();
            }
            boolean allowed = c == LIST || isName(c) || isNumeral(c) || isKeyword(c)
                    || (c == '_' && kind == PATTERN);
            return allowed && add(c, 0);
        }

        /** Adds a node to the innermost open list, and opens it if it is a list itself. */
        boolean add(char c, int mark) {
            boolean isWhole = deep == 0 && size > start;
            boolean isTooDeep = c == LIST && deep >= deepest;
            if (isWhole || isTooDeep || size - start >= LARGEST || size >= sign.length) {
                return false;
            }
            sign[size] = c;
            stamp[size] = mark;
            span[size] = 1;
            items[size] = 0;
            repeated[size] = false;
            if (deep > 0) {
                items[open[deep - 1]]++;
            }
            last = size;
            if (c == LIST) {
                open[deep] = size;
                deep++;
                last = -1;
            }
            size++;
            return true;
        }

        boolean close() {
            if (deep == 0) {
                return false;
            }
            deep--;
            last = open[deep];
            span[last] = size - last;
            return true;
        }

        private boolean repeatLast() {
            if (deep == 0 || last < 0) {
                return false;
            }
            for (int i = last; i < size; i++) {
                if (repeated[i]) {
                    return false;
                }
            }
            repeated[last] = true;
            return true;
        }
    }

    /** A pattern and, behind it in the same row, its template. */
    private static final class Rule {
        private static final int NEW = 0;
        private static final int SINGLE = 1;
        private static final int MANY = 2;

        private final Terms terms = new Terms(Draft.LONGEST);
        private final int[] kinds = new int[LETTERS];
        private int template;

        Terms terms() {
            return terms;
        }

        int template() {
            return template;
        }

        char macro() {
            return terms.sign(1);
        }

        boolean isVariable(char c) {
            return isName(c) && kinds[c - 'a'] != NEW;
        }

        boolean isMany(char c) {
            return isName(c) && kinds[c - 'a'] == MANY;
        }

        boolean read(Draft text) {
            int end = text.find('=');
            terms.clear();
            if (!hasMacro(text) || !repeatsLastItems(text, end)
                    || !terms.read(text, 0, end, Terms.PATTERN) || !findVariables()) {
                return false;
            }
            template = terms.size();
            return terms.read(text, end + 1, text.length(), Terms.TEMPLATE) && repeatsManys();
        }

        private static boolean hasMacro(Draft text) {
            return text.at(0) == LIST && isName(text.at(1)) && text.at(2) != '~';
        }

        private static boolean repeatsLastItems(Draft text, int end) {
            for (int i = 0; i < end; i++) {
                if (text.at(i) == '~' && text.at(i + 1) != ')') {
                    return false;
                }
            }
            return true;
        }

        /** Tells the pattern's variables by kind; false if one is there twice. */
        private boolean findVariables() {
            Arrays.fill(kinds, NEW);
            int repeatedUntil = 0;
            // The first two nodes are the pattern's list and its macro, which is no variable.
            for (int i = 2; i < terms.size(); i++) {
                char c = terms.sign(i);
                if (terms.isRepeated(i)) {
                    repeatedUntil = terms.after(i);
                }
                if (isVariable(c)) {
                    return false;
                }
                if (isName(c)) {
                    kinds[c - 'a'] = i < repeatedUntil ? MANY : SINGLE;
                }
            }
            return true;
        }

        /** Whether the template repeats each MANY, and nothing without one. */
        private boolean repeatsManys() {
            int repeatedUntil = 0;
            for (int i = template; i < terms.size(); i++) {
                if (terms.isRepeated(i)) {
                    repeatedUntil = terms.after(i);
                    if (!holdsMany(i)) {
                        return false;
                    }
                }
                if (isMany(terms.sign(i)) && i >= repeatedUntil) {
                    return false;
                }
            }
            return true;
        }

        private boolean holdsMany(int item) {
            for (int i = item; i < terms.after(item); i++) {
                if (isMany(terms.sign(i))) {
                    return true;
                }
            }
            return false;
        }
    }

    /** The rules that were told, in their order. */
    private static final class RuleBook {
        private static final int MOST = 12;

        // One more than is kept: the next text is read into the first that isn't.
        private final Rule[] told = new Rule[MOST + 1];
        private int size;

        RuleBook() {
            for (int i = 0; i <= MOST; i++) {
                told[i] = new Rule();
            }
        }

        int size() {
            return size;
        }

        boolean isFull() {
            return size >= MOST;
        }

        boolean read(Draft text) {
            return told[size].read(text);
        }

        /** Keeps the rule that was read last: how many its macro has. */
        int keep() {
            char macro = told[size].macro();
            size++;
            int same = 0;
            for (int i = 0; i < size; i++) {
                if (told[i].macro() == macro) {
                    same++;
                }
            }
            return same;
        }

        int drop(char macro) {
            int before = size;
            int kept = 0;
            for (int i = 0; i < before; i++) {
                Rule rule = told[i];
                if (rule.macro() != macro) {
                    told[i] = told[kept];
                    told[kept] = rule;
                    kept++;
                }
            }
            size = kept;
            return before - kept;
        }

        boolean hasMacro(char c) {
            for (int i = 0; i < size; i++) {
                if (told[i].macro() == c) {
                    return true;
                }
            }
            return false;
        }

        Rule get(int i) {
            return told[i];
        }
    }

    /** What the variables of a rule stand for in one use of its macro. */
    private static final class Match {
        private final int[][] found = new int[LETTERS][Terms.LARGEST];
        private final int[] counts = new int[LETTERS];

        boolean fits(Rule rule, Terms terms, int use) {
            Arrays.fill(counts, 0);
            return fitItems(rule.terms(), 0, terms, use, 1);
        }

        /** Matches the items of two lists, but for the first ones, which aren't looked at. */
        private boolean fitItems(Terms pattern, int list, Terms terms, int term, int first) {
            int wanted = list + 1;
            int left = pattern.items(list);
            int item = term + 1;
            for (int k = 0; k < terms.items(term); k++) {
                if (left == 0 || (k >= first && !fitTerm(pattern, wanted, terms, item))) {
                    return false;
                }
                if (!pattern.isRepeated(wanted)) {
                    wanted = pattern.after(wanted);
                    left--;
                }
                item = terms.after(item);
            }
            return left == 0 || (left == 1 && pattern.isRepeated(wanted));
        }

        private boolean fitTerm(Terms pattern, int wanted, Terms terms, int term) {
            char c = pattern.sign(wanted);
            if (c == '_') {
                return true;
            }
            if (isName(c)) {
                return bind(c - 'a', term);
            }
            if (c != terms.sign(term)) {
                return false;
            }
            return c != LIST || fitItems(pattern, wanted, terms, term, 0);
        }

        private boolean bind(int variable, int term) {
            if (counts[variable] >= Terms.LARGEST) {
                return false;
            }
            found[variable][counts[variable]] = term;
            counts[variable]++;
            return true;
        }

        int term(char variable, int n) {
            return found[variable - 'a'][n];
        }

        boolean isEven(Rule rule) {
            Terms terms = rule.terms();
            for (int i = rule.template(); i < terms.size(); i++) {
                if (terms.isRepeated(i) && copies(rule, i) < 0) {
                    return false;
                }
            }
            return true;
        }

        /** How many terms each MANY of a template's item matched; -1 if that is not one number. */
        int copies(Rule rule, int item) {
            int copies = -1;
            for (int i = item; i < rule.terms().after(item); i++) {
                char c = rule.terms().sign(i);
                if (rule.isMany(c)) {
                    int count = counts[c - 'a'];
                    if (copies >= 0 && copies != count) {
                        return -1;
                    }
                    copies = count;
                }
            }
            return copies;
        }
    }

    /** A row of marks. It can be seen only once it is finished. */
    private static final class Result {
        static final int LIST_BEGINS = 1;
        static final int LIST_ENDS = 2;
        private static final int MOST = 150;

        private final int[] marks = new int[MOST];
        private int found;
        private int length;

        void clear() {
            found = 0;
            length = 0;
        }

        void put(int mark) {
            if (found >= MOST) {
                throw new UnsupportedOperationException("more than 150 marks");
            }
            marks[found] = mark;
            found++;
        }

        int finish() {
            length = found;
            return length;
        }

        int at(int k) {
            return k >= 0 && k < length ? marks[k] : NONE;
        }

        int deepest() {
            int deep = 0;
            int deepest = 0;
            for (int i = 0; i < length; i++) {
                if (marks[i] == LIST_BEGINS) {
                    deep++;
                    deepest = Math.max(deepest, deep);
                } else if (marks[i] == LIST_ENDS) {
                    deep--;
                }
            }
            return deepest;
        }
    }

    /** Expands a term: the text itself lies first in the row, each replacement behind it. */
    private static final class Expansion {
        private static final int DEEPEST = 12;

        private final Terms terms = new Terms(Terms.LARGEST * (MOST_FUEL + 1));
        private final Match match = new Match();
        private final Result result = new Result();
        private final char[] boundLetters = new char[DEEPEST];
        private final int[] boundStamps = new int[DEEPEST];
        private RuleBook book;
        private int bound;
        private int fuel;
        private int made;

        Result result() {
            return result;
        }

        int made() {
            return made;
        }

        boolean read(Draft text) {
            terms.clear();
            return terms.read(text, 0, text.length(), Terms.PLAIN);
        }

        /** Expands what was read: how many marks the result has. */
        int run(RuleBook rules, int replacements) {
            book = rules;
            fuel = replacements;
            made = 0;
            bound = 0;
            result.clear();
            expression(0, 1);
            return result.finish();
        }

        private void expression(int node, int deep) {
            if (deep > DEEPEST) {
                throw new UnsupportedOperationException("an expression is more than 12 deep");
            }
            int term = node;
            for (int n = 0; n <= MOST_FUEL && isUse(term); n++) {
                term = replace(term);
            }
            char c = terms.sign(term);
            if (isName(c)) {
                int level = levelOf(term);
                result.put(level < 0 ? letterMark(c) : 200 + level);
            } else if (isNumeral(c)) {
                result.put(numeralMark(c));
            } else {
                form(term, deep);
            }
        }

        private void form(int list, int deep) {
            if (!isWellFormed(list)) {
                throw new IllegalStateException("malformed");
            }
            char head = terms.sign(list + 1);
            result.put(Result.LIST_BEGINS);
            if (head == 'L') {
                result.put(3);
                bind(list + 2);
                expressions(list + 3, 1, deep + 1);
                bound--;
            } else if (head == 'I') {
                result.put(4);
                expressions(list + 2, 3, deep + 1);
            } else if (head == 'Q') {
                result.put(5);
                quote(list + 2);
            } else {
                expressions(list + 1, terms.items(list), deep + 1);
            }
            result.put(Result.LIST_ENDS);
        }

        /** Whether a term that is no name and no numeral is a core form. */
        private boolean isWellFormed(int term) {
            int items = terms.items(term);
            // A keyword alone has no items, as the empty list has none.
            if (items == 0) {
                return false;
            }
            char head = terms.sign(term + 1);
            if (head == 'L') {
                return items == 3 && isName(terms.sign(term + 2));
            }
            if (head == 'I') {
                return items == 4;
            }
            return head != 'Q' || items == 2;
        }

        private void expressions(int first, int count, int deep) {
            int item = first;
            for (int k = 0; k < count; k++) {
                expression(item, deep);
                item = terms.after(item);
            }
        }

        private void quote(int term) {
            char c = terms.sign(term);
            if (c != LIST) {
                result.put(quotedMark(c));
                return;
            }
            result.put(Result.LIST_BEGINS);
            int item = term + 1;
            for (int k = 0; k < terms.items(term); k++) {
                quote(item);
                item = terms.after(item);
            }
            result.put(Result.LIST_ENDS);
        }

        private static int quotedMark(char c) {
            if (c == 'L') {
                return -1;
            }
            if (c == 'I') {
                return -2;
            }
            if (c == 'Q') {
                return -3;
            }
            return isName(c) ? letterMark(c) : numeralMark(c);
        }

        private static int letterMark(char c) {
            return 100 + c - 'a';
        }

        private static int numeralMark(char c) {
            return 10 + c - '0';
        }

        private void bind(int name) {
            if (bound < DEEPEST) {
                boundLetters[bound] = terms.sign(name);
                boundStamps[bound] = terms.stamp(name);
                bound++;
            }
        }

        /** How many names were bound outside of the one that a name means; -1 if it is free. */
        private int levelOf(int name) {
            for (int i = bound - 1; i >= 0; i--) {
                if (boundLetters[i] == terms.sign(name) && boundStamps[i] == terms.stamp(name)) {
                    return i;
                }
            }
            return -1;
        }

        private boolean isUse(int term) {
            if (terms.items(term) == 0) {
                return false;
            }
            int head = term + 1;
            return isName(terms.sign(head)) && book.hasMacro(terms.sign(head)) && levelOf(head) < 0;
        }

        /** Puts a template in the place of a use: its first node. */
        private int replace(int use) {
            if (made >= fuel) {
                throw new UnsupportedOperationException("no replacement is left");
            }
            Rule rule = firstFit(use);
            if (rule == null || !match.isEven(rule)) {
                throw new IllegalStateException("no rule matches, or MANYs matched unequally many");
            }
            int term = terms.begin(Terms.DEEPEST_MADE);
            if (!fill(rule, rule.template(), 0)) {
                throw new UnsupportedOperationException("a replacement is too large or too deep");
            }
            made++;
            return term;
        }

        private Rule firstFit(int use) {
            char macro = terms.sign(use + 1);
            for (int i = 0; i < book.size(); i++) {
                Rule rule = book.get(i);
                if (rule.macro() == macro && match.fits(rule, terms, use)) {
                    return rule;
                }
            }
            return null;
        }

        /** Adds a template's term, a MANY being what it matched at a place; false if it is too large. */
        private boolean fill(Rule rule, int node, int copy) {
            Terms from = rule.terms();
            char c = from.sign(node);
            if (rule.isVariable(c)) {
                return copy(match.term(c, rule.isMany(c) ? copy : 0));
            }
            if (!terms.add(c, isName(c) ? made + 1 : 0)) {
                return false;
            }
            if (c != LIST) {
                return true;
            }
            int item = node + 1;
            for (int k = 0; k < from.items(node); k++) {
                boolean repeats = from.isRepeated(item);
                int copies = repeats ? match.copies(rule, item) : 1;
                for (int n = 0; n < copies; n++) {
                    if (!fill(rule, item, repeats ? n : copy)) {
                        return false;
                    }
                }
                item = from.after(item);
            }
            return terms.close();
        }

        /** Adds a term that was matched, with its stamps. */
        private boolean copy(int node) {
            char c = terms.sign(node);
            if (!terms.add(c, terms.stamp(node))) {
                return false;
            }
            if (c != LIST) {
                return true;
            }
            int item = node + 1;
            for (int k = 0; k < terms.items(node); k++) {
                if (!copy(item)) {
                    return false;
                }
                item = terms.after(item);
            }
            return terms.close();
        }
    }
}
