import java.util.Map;
import java.util.Random;
import java.util.TreeMap;

/** Runs of up to 512 calls, made from numbers that are the same each time, against the model. */
final class ModelTest {
    private static final int RUNS = 12000;
    /** Behind these, what an object answers is free. */
    private static final int CALLS = 512;

    private final Random random;
    private final MacroForge forge = new MacroForge();
    private final Model model = new Model();
    private final Map<String, Integer> seen;
    private final StringBuilder history = new StringBuilder();
    private int calls;
    private boolean isWrong;

    private ModelTest(long seed, Map<String, Integer> seen) {
        this.random = new Random(seed);
        this.seen = seen;
    }

    public static void main(String[] args) {
        Map<String, Integer> seen = new TreeMap<>();
        boolean isWrong = false;
        for (int run = 0; run < RUNS && !isWrong; run++) {
            ModelTest test = new ModelTest(run, seen);
            test.run();
            isWrong = test.isWrong;
        }
        System.out.println(seen);
        for (String kind : new String[] {"rule", "rule IllegalArgumentException",
            "rule UnsupportedOperationException", "expand", "expand with replacements",
            "expand IllegalArgumentException", "expand IllegalStateException",
            "expand UnsupportedOperationException", "forget"}) {
            if (seen.getOrDefault(kind, 0) < 100) {
                System.out.println("too few runs come to: " + kind);
                isWrong = true;
            }
        }
        if (isWrong) {
            System.exit(1);
        }
    }

    private interface Call {
        int answer();
    }

    private void same(String call, Call ours, Call due) {
        if (calls == CALLS) {
            return;
        }
        calls++;
        history.append(call);
        String got = outcome(ours);
        String want = outcome(due);
        if (!got.equals(want) && !isWrong) {
            isWrong = true;
            System.out.println(history + " answered " + got + ", due is " + want);
        }
        String kind = want.startsWith("java") ? " " + want.replace("java.lang.", "") : "";
        seen.merge(call.replaceAll("[^a-z].*", "") + kind, 1, Integer::sum);
    }

    private static String outcome(Call call) {
        try {
            return String.valueOf(call.answer());
        } catch (RuntimeException e) {
            return e.getClass().getName();
        }
    }

    private void run() {
        while (calls < CALLS && !isWrong) {
            int choice = random.nextInt(20);
            if (choice < 8) {
                typeAll(ruleText());
                same("rule()\n", forge::rule, model::rule);
            } else if (choice < 18) {
                expand();
            } else if (choice == 18) {
                char macro = "mnopA(".charAt(random.nextInt(6));
                same("forget(" + macro + ")\n", () -> forge.forget(macro),
                        () -> model.forget(macro));
            }
            same("rules()\n", forge::rules, model::rules);
        }
    }

    private void expand() {
        typeAll(expressionText());
        int fuel = random.nextInt(10) == 0 ? random.nextInt(18) - 3 : 6 + random.nextInt(7);
        same("expand(" + fuel + ")\n", () -> forge.expand(fuel), () -> model.expand(fuel));
        same("replaced()\n", forge::replaced, model::replaced);
        same("depth()\n", forge::depth, model::depth);
        if (model.mark(0) != MacroForge.NONE && model.replaced() > 0) {
            seen.merge("expand with replacements", 1, Integer::sum);
        }
        int last = random.nextInt(8) == 0 ? 0 : 151;
        for (int k = -1; k <= last && (k < 1 || model.mark(k - 1) != MacroForge.NONE); k++) {
            int mark = k;
            same("mark(" + k + ") ", () -> forge.mark(mark), () -> model.mark(mark));
        }
    }

    private void typeAll(String text) {
        String typed = random.nextInt(25) == 0 ? spoil(text) : text;
        for (char c : typed.toCharArray()) {
            same("type " + c + " ", () -> forge.type(c) ? 1 : 0, () -> model.type(c) ? 1 : 0);
        }
    }

    private String spoil(String text) {
        StringBuilder spoiled = new StringBuilder(text);
        String signs = "()~=_ aLQ1\u007f";
        char sign = signs.charAt(random.nextInt(signs.length()));
        int at = random.nextInt(text.length() + 1);
        if (at < text.length() && random.nextBoolean()) {
            spoiled.deleteCharAt(at);
        } else {
            spoiled.insert(at, sign);
        }
        return spoiled.toString();
    }

    private char any(String signs) {
        return signs.charAt(random.nextInt(signs.length()));
    }

    private String ruleText() {
        String free = "tuvwxyz";
        StringBuilder singles = new StringBuilder();
        StringBuilder manys = new StringBuilder();
        StringBuilder pattern = new StringBuilder("(").append(any("mnop"));
        int next = patternItems(pattern, free, 0, 1, false, singles, manys);
        String template = template(1, singles.toString(), manys.toString(), false);
        if (next > free.length()) {
            return "(m)=1";
        }
        return pattern + ")=" + template;
    }

    /** Adds items to a pattern's list: how many of the variables are taken then. */
    private int patternItems(StringBuilder pattern, String free, int from, int deep, boolean inMany,
            StringBuilder singles, StringBuilder manys) {
        int next = from;
        int count = random.nextInt(4);
        for (int k = 0; k < count; k++) {
            boolean many = !inMany && k == count - 1 && random.nextInt(3) > 0;
            int choice = random.nextInt(10);
            if (choice < 3 && deep < 4) {
                pattern.append('(');
                next = patternItems(pattern, free, next, deep + 1, inMany || many, singles, manys);
                pattern.append(')');
            } else if (choice == 9) {
                pattern.append(any("_12LQ"));
            } else if (next < free.length()) {
                char variable = free.charAt(next++);
                pattern.append(variable);
                (inMany || many ? manys : singles).append(variable);
            } else {
                pattern.append('_');
            }
            if (many) {
                pattern.append('~');
            }
        }
        return next;
    }

    private String template(int deep, String singles, String manys, boolean inMany) {
        int choice = random.nextInt(20);
        String atoms = singles + singles + (inMany ? manys + manys + manys : "");
        if (deep > 4 || deep > 1 && choice < 9) {
            return String.valueOf(any(atoms.isEmpty() || choice < 2 ? "tu12mab" : atoms));
        }
        StringBuilder list = new StringBuilder("(");
        int count = 1 + random.nextInt(3);
        if (choice < 12) {
            list.append(any("mnop"));
        } else if (choice < 15) {
            list.append('L').append(any("tu" + atoms));
            count = 1;
        } else if (choice < 17) {
            list.append('Q');
            count = 1;
        } else if (choice < 18) {
            list.append('I');
            count = 3;
        }
        for (int k = 0; k < count; k++) {
            boolean many = !inMany && !manys.isEmpty() && random.nextInt(3) > 0;
            if (many && random.nextBoolean()) {
                list.append(any(manys)).append('~');
            } else {
                list.append(template(deep + 1, singles, manys, inMany || many));
                list.append(many ? "~" : "");
            }
        }
        return list.append(')').toString();
    }

    private String expressionText() {
        String text = expression(1);
        for (int n = 0; n < 5 && text.length() > 60; n++) {
            text = expression(2);
        }
        return text;
    }

    private String expression(int deep) {
        int choice = random.nextInt(22);
        String blank = random.nextInt(6) == 0 ? " " : "";
        if (deep > 6 || deep > 1 && choice < 9) {
            return any(choice == 0 ? "LIQ" : "tuxy12mab") + blank;
        }
        StringBuilder list = new StringBuilder("(").append(blank);
        int count = random.nextInt(4);
        if (choice < 16) {
            list.append(any("mnop"));
        } else if (choice < 18) {
            list.append('L').append(any("tuxymn"));
            count = random.nextInt(30) == 0 ? count : 1;
        } else if (choice < 19) {
            list.append('Q');
            count = random.nextInt(30) == 0 ? count : 1;
        } else if (choice < 20) {
            list.append('I');
            count = random.nextInt(30) == 0 ? count : 3;
        }
        for (int k = 0; k < count; k++) {
            list.append(expression(deep + 1));
        }
        return list.append(')').toString();
    }
}
