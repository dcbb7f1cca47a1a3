import java.util.ArrayList;
import java.util.HashMap;
import java.util.HashSet;
import java.util.List;
import java.util.Map;
import java.util.Set;

/** The document told a second time, with trees and without regard to room, for ModelTest. */
final class Model {
    /** A name, numeral, keyword, _ or (items not null) a list, perhaps with ~ behind it. */
    private record Term(char sign, int stamp, List<Term> items, boolean many) {
        boolean isList() {
            return items != null;
        }

        boolean isName() {
            return !isList() && Character.isLowerCase(sign);
        }

        Term withMany() {
            return new Term(sign, stamp, items, true);
        }

        int size() {
            return 1 + (isList() ? items.stream().mapToInt(Term::size).sum() : 0);
        }

        int height() {
            return isList() ? 1 + items.stream().mapToInt(Term::height).max().orElse(0) : 0;
        }

        boolean hasMany() {
            return many || isList() && items.stream().anyMatch(Term::hasMany);
        }

        void names(List<Character> into) {
            if (isName()) {
                into.add(sign);
            } else if (isList()) {
                items.forEach(item -> item.names(into));
            }
        }
    }

    private record Rule(char macro, List<Term> pattern, Term template, Set<Character> variables,
            Set<Character> manys) {
    }

    private record Name(char letter, int stamp) {
    }

    private static final class NoText extends Exception {
        private static final long serialVersionUID = 1;
    }

    private String draft = "";
    private final List<Rule> rules = new ArrayList<>();
    private List<Integer> result = List.of();
    private int replaced;

    boolean type(char c) {
        if (c < 32 || c > 126 || draft.length() == 60) {
            return false;
        }
        draft += c;
        return true;
    }

    int rules() {
        return rules.size();
    }

    int replaced() {
        return replaced;
    }

    int mark(int k) {
        return k < 0 || k >= result.size() ? -99 : result.get(k);
    }

    int depth() {
        int deep = 0;
        int most = 0;
        for (int mark : result) {
            deep += mark == 1 ? 1 : mark == 2 ? -1 : 0;
            most = Math.max(most, deep);
        }
        return most;
    }

    int forget(char macro) {
        int before = rules.size();
        rules.removeIf(rule -> rule.macro == macro);
        return before - rules.size();
    }

    int rule() {
        String text = takeDraft();
        Rule rule;
        try {
            rule = readRule(text);
        } catch (NoText e) {
            throw new IllegalArgumentException();
        }
        if (rules.size() == 12) {
            throw new UnsupportedOperationException();
        }
        rules.add(rule);
        return (int) rules.stream().filter(other -> other.macro == rule.macro).count();
    }

    int expand(int fuel) {
        String text = takeDraft();
        Term term;
        try {
            term = new Reader(text, "").whole();
        } catch (NoText e) {
            throw new IllegalArgumentException();
        }
        if (fuel < 0 || fuel > 12) {
            throw new IllegalArgumentException();
        }
        result = List.of();
        replaced = 0;
        List<Integer> marks = new ArrayList<>();
        expression(term, 1, List.of(), fuel, marks);
        result = marks;
        return marks.size();
    }

    private String takeDraft() {
        String text = draft.replace(" ", "");
        draft = "";
        return text;
    }

    private static void require(boolean holds) throws NoText {
        if (!holds) {
            throw new NoText();
        }
    }

    private static final class Reader {
        private final String text;
        private final String more;
        private int at;

        Reader(String text, String more) {
            this.text = text;
            this.more = more;
        }

        Term whole() throws NoText {
            Term term = term(1);
            require(at == text.length());
            return term;
        }

        private Term term(int deep) throws NoText {
            require(at < text.length());
            char c = text.charAt(at++);
            if (c != '(') {
                require(String.valueOf(c).matches("[a-z0-9LIQ]") || c == '_' && more.contains("_"));
                return new Term(c, 0, null, false);
            }
            require(deep <= 8);
            List<Term> items = new ArrayList<>();
            while (at < text.length() && text.charAt(at) != ')') {
                Term item = term(deep + 1);
                if (more.contains("~") && at < text.length() && text.charAt(at) == '~') {
                    require(!item.hasMany());
                    item = item.withMany();
                    at++;
                }
                items.add(item);
            }
            require(at < text.length());
            at++;
            return new Term('(', 0, items, false);
        }
    }

    private static Rule readRule(String text) throws NoText {
        String[] parts = text.split("=", -1);
        require(parts.length == 2);
        Term pattern = new Reader(parts[0], "_~").whole();
        require(pattern.isList() && !pattern.items.isEmpty());
        Term macro = pattern.items.get(0);
        require(macro.isName() && !macro.many);
        requireManyLast(pattern);
        List<Term> items = pattern.items.subList(1, pattern.items.size());
        List<Character> names = new ArrayList<>();
        items.forEach(item -> item.names(names));
        Set<Character> variables = new HashSet<>(names);
        require(variables.size() == names.size());
        Set<Character> manys = new HashSet<>();
        items.forEach(item -> findManys(item, manys));
        Term template = new Reader(parts[1], "~").whole();
        requireManys(template, manys, false);
        return new Rule(macro.sign, items, template, variables, manys);
    }

    private static void requireManyLast(Term list) throws NoText {
        for (int k = 0; k < list.items.size(); k++) {
            Term item = list.items.get(k);
            require(!item.many || k == list.items.size() - 1);
            if (item.isList()) {
                requireManyLast(item);
            }
        }
    }

    private static void findManys(Term item, Set<Character> manys) {
        if (item.many) {
            List<Character> names = new ArrayList<>();
            item.names(names);
            manys.addAll(names);
        } else if (item.isList()) {
            item.items.forEach(inner -> findManys(inner, manys));
        }
    }

    private static void requireManys(Term term, Set<Character> manys, boolean inMany)
            throws NoText {
        List<Character> names = new ArrayList<>();
        term.names(names);
        names.retainAll(manys);
        require(!term.many || !names.isEmpty());
        boolean covered = inMany || term.many;
        require(covered || !term.isName() || names.isEmpty());
        if (term.isList()) {
            for (Term item : term.items) {
                requireManys(item, manys, covered);
            }
        }
    }

    private static boolean matchItems(List<Term> pattern, List<Term> terms,
            Map<Character, List<Term>> found) {
        int last = pattern.size() - 1;
        boolean many = last >= 0 && pattern.get(last).many;
        int fixed = many ? last : pattern.size();
        if (many ? terms.size() < fixed : terms.size() != fixed) {
            return false;
        }
        for (int k = 0; k < terms.size(); k++) {
            if (!matchTerm(pattern.get(Math.min(k, last)), terms.get(k), found)) {
                return false;
            }
        }
        return true;
    }

    private static boolean matchTerm(Term pattern, Term term, Map<Character, List<Term>> found) {
        if (pattern.isList()) {
            return term.isList() && matchItems(pattern.items, term.items, found);
        }
        if (pattern.isName()) {
            found.computeIfAbsent(pattern.sign, key -> new ArrayList<>()).add(term);
            return true;
        }
        return pattern.sign == '_' || !term.isList() && term.sign == pattern.sign;
    }

    private Term replace(Term use, int fuel) {
        if (replaced == fuel) {
            throw new UnsupportedOperationException();
        }
        List<Term> arguments = use.items.subList(1, use.items.size());
        for (Rule rule : rules) {
            Map<Character, List<Term>> found = new HashMap<>();
            if (rule.macro == use.items.get(0).sign && matchItems(rule.pattern, arguments, found)) {
                rule.manys.forEach(many -> found.putIfAbsent(many, List.of()));
                Term made = fill(rule, rule.template, found, -1);
                if (made.size() > 60 || made.height() > 12) {
                    throw new UnsupportedOperationException();
                }
                replaced++;
                return made;
            }
        }
        throw new IllegalStateException();
    }

    private Term fill(Rule rule, Term term, Map<Character, List<Term>> found, int copy) {
        if (term.isName()) {
            if (!rule.variables.contains(term.sign)) {
                return new Term(term.sign, replaced + 1, null, false);
            }
            return found.get(term.sign).get(rule.manys.contains(term.sign) ? copy : 0);
        }
        if (!term.isList()) {
            return term;
        }
        List<Term> items = new ArrayList<>();
        for (Term item : term.items) {
            if (!item.many) {
                items.add(fill(rule, item, found, copy));
                continue;
            }
            List<Character> names = new ArrayList<>();
            item.names(names);
            names.retainAll(rule.manys);
            int copies = found.get(names.get(0)).size();
            for (char name : names) {
                if (found.get(name).size() != copies) {
                    throw new IllegalStateException();
                }
            }
            for (int n = 0; n < copies; n++) {
                items.add(fill(rule, item, found, n));
            }
        }
        return new Term('(', 0, items, false);
    }

    private void put(List<Integer> marks, int mark) {
        if (marks.size() == 150) {
            throw new UnsupportedOperationException();
        }
        marks.add(mark);
    }

    private void expression(Term term, int deep, List<Name> bound, int fuel, List<Integer> marks) {
        if (deep > 12) {
            throw new UnsupportedOperationException();
        }
        if (!term.isList()) {
            if (!term.isName() && !Character.isDigit(term.sign)) {
                throw new IllegalStateException();
            }
            int level = bound.lastIndexOf(new Name(term.sign, term.stamp));
            put(marks, term.isName() && level >= 0 ? 200 + level : plain(term.sign));
            return;
        }
        if (term.items.isEmpty()) {
            throw new IllegalStateException();
        }
        Term head = term.items.get(0);
        boolean isBound = bound.contains(new Name(head.sign, head.stamp));
        if (head.isName() && !isBound && rules.stream().anyMatch(r -> r.macro == head.sign)) {
            expression(replace(term, fuel), deep, bound, fuel, marks);
            return;
        }
        int count = term.items.size();
        List<Term> inner = term.items;
        List<Name> innerBound = bound;
        int keyword = head.isList() ? -1 : "LIQ".indexOf(head.sign);
        if (keyword >= 0) {
            if (count != new int[] {3, 4, 2}[keyword]
                    || keyword == 0 && !term.items.get(1).isName()) {
                throw new IllegalStateException();
            }
            inner = term.items.subList(keyword == 0 ? 2 : 1, count);
        }
        put(marks, 1);
        if (keyword >= 0) {
            put(marks, 3 + keyword);
        }
        if (keyword == 0) {
            innerBound = new ArrayList<>(bound);
            innerBound.add(new Name(term.items.get(1).sign, term.items.get(1).stamp));
        }
        for (Term item : inner) {
            if (keyword == 2) {
                quote(item, marks);
            } else {
                expression(item, deep + 1, innerBound, fuel, marks);
            }
        }
        put(marks, 2);
    }

    private void quote(Term term, List<Integer> marks) {
        if (!term.isList()) {
            put(marks, plain(term.sign));
            return;
        }
        put(marks, 1);
        term.items.forEach(item -> quote(item, marks));
        put(marks, 2);
    }

    private static int plain(char sign) {
        if (Character.isDigit(sign)) {
            return 10 + sign - '0';
        }
        return Character.isLowerCase(sign) ? 100 + sign - 'a' : -1 - "LIQ".indexOf(sign);
    }
}
