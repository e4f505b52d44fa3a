import java.util.ArrayList;
import java.util.LinkedHashMap;
import java.util.List;
import java.util.Map;
import java.util.Random;

/** Makes random programs and rules, most of them sound, from a seed. */
final class ProgramMaker {
    private static final String[] NAMES = {"a", "b", "x", "y", "t", "m", "k", "fn", "if", "q", "ls", "+", "abc"};
    /** Rules, each with its pattern, that bring programs near the limits or make names ambiguous. */
    private static final String[][] DEAR_RULES = {
        {"(k ((_ a) (fn (x) (ls (m ((_) (fn (a) x))) (m)))))", "(_ a)"},
        {"(k ((_ a b) (fn (x a) (ls (m ((_ y) (fn (y a) (b x y)))) (m x)))))", "(_ a b)"},
        {"(m ((_ a) (+ a a a)))", "(_ a)"},
        {"(m ((_ a ..) (+ (a a) .. (a ..) .. a ..)))", "(_ a)"},
        {"(m ((_ a ..) (+ (a a) .. 10 a .. a .. a .. a ..)))", "(_ a ..)"},
        {"(m ((_ a (b ..) ..) (q (a (b ..) .. ((b 77) ..) .. a ((b a) ..) ..))))", "(_ a (b ..) ..)"},
        {"(w ((_ a) ((((a))))))", "(_ a)"},
        {"(w ((_ a b) (w b (((((a))))))) ((_ a) a) ((_) (q a)))", "(_ a b)"},
        {"(z ((_ a b ..) (fn (x y) (fn (a) (z b ..)))) ((_) 1))", "(_ a b c)"},
        {"(z ((_ a) (ls (m ((_ x) (x a x))) (m (m (m +))))))", "(_ a)"},
        {"(z ((_ a b) (ls (m a) b)))", "(_ ((_ x) (+ x y x)) (m y))"},
    };
    private final Random random;
    /** For the names with rules that the maker knows of, patterns to make lists by. */
    private final Map<String, String> known = new LinkedHashMap<>();

    ProgramMaker(Random random) {
        this.random = random;
    }

    private int upTo(int n) {
        return random.nextInt(n);
    }

    private boolean chance(int percent) {
        return upTo(100) < percent;
    }

    private String anyName() {
        return NAMES[upTo(NAMES.length)];
    }

    private String shortName() {
        return NAMES[upTo(7)];
    }

    String dearRules() {
        String[] dear = DEAR_RULES[upTo(DEAR_RULES.length)];
        known.put(dear[0].substring(1, 2), dear[1]);
        return dear[0];
    }

    /** A list of a name and rules. */
    String namedRules(String name, int depth) {
        StringBuilder text = new StringBuilder("(" + name);
        int howMany = chance(70) ? 1 : upTo(3);
        for (int k = 0; k < howMany; k++) {
            text.append(' ').append(rule(name, depth));
        }
        return text.append(")").toString();
    }

    private String rule(String name, int depth) {
        Map<String, Integer> variables = new LinkedHashMap<>();
        String pattern = "(" + (chance(90) ? "_" : anyName()) + items(variables, 0, 2, chance(20) ? 0 : 1 + upTo(3)) + ")";
        known.put(name, pattern);
        String template = template(variables, 0, depth);
        return "(" + pattern + " " + template + ")";
    }

    private String items(Map<String, Integer> variables, int held, int depth, int howMany) {
        StringBuilder text = new StringBuilder();
        for (int k = 0; k < howMany; k++) {
            boolean dots = k == howMany - 1 && chance(held < 2 ? 35 : 2);
            text.append(' ').append(part(variables, held + (dots ? 1 : 0), depth));
            text.append(dots ? " .." : "");
        }
        return text.toString();
    }

    private String part(Map<String, Integer> variables, int held, int depth) {
        int kind = upTo(20);
        if (kind == 0) {
            return "_";
        }
        if (kind == 1) {
            return Integer.toString(upTo(3));
        }
        if (kind < 6 && depth > 0) {
            String inner = items(variables, held, depth - 1, upTo(4));
            return "(" + inner.trim() + ")";
        }
        String name = shortName();
        if (variables.containsKey(name) && chance(97)) {
            return "_";
        }
        variables.put(name, held);
        return name;
    }

    private String template(Map<String, Integer> variables, int held, int depth) {
        List<String> fitting = new ArrayList<>();
        variables.forEach((name, d) -> {
            if (d == held) {
                fitting.add(name);
            }
        });
        if (!fitting.isEmpty() && chance(45)) {
            return fitting.get(upTo(fitting.size()));
        }
        if (depth <= 0 || chance(10)) {
            return fitting.isEmpty() ? leaf() : fitting.get(upTo(fitting.size()));
        }
        switch (upTo(7)) {
            case 0:
                return "(fn (" + shortName() + ") " + template(variables, held, depth - 1) + ")";
            case 1:
                return "(if " + template(variables, held, depth - 1) + " " + leaf() + " "
                    + template(variables, held, depth - 1) + ")";
            case 2:
                return "(q " + template(variables, held, depth - 1) + ")";
            case 3:
                return "(" + (known.isEmpty() ? "+" : anyKnown()) + templates(variables, held, depth) + ")";
            case 4:
                return innerRules(variables, held, depth);
            default:
                return "(" + templates(variables, held, depth).trim() + ")";
        }
    }

    /** Rules within a template, whose own template may have uses in it. */
    private String innerRules(Map<String, Integer> variables, int held, int depth) {
        String name = shortName();
        String inner = chance(50) ? "(fn (" + template(variables, held, 0) + ") " + leaf() + ")"
            : template(variables, held, depth - 1);
        String body = chance(60) ? "(" + name + ")" : template(variables, held, depth - 1);
        return "(ls (" + name + " ((_) " + inner + ")) " + body + ")";
    }

    private String anyKnown() {
        return new ArrayList<>(known.keySet()).get(upTo(known.size()));
    }

    private String templates(Map<String, Integer> variables, int held, int depth) {
        StringBuilder text = new StringBuilder();
        int howMany = upTo(4);
        for (int k = 0; k < howMany; k++) {
            boolean deeper = variables.values().stream().anyMatch(d -> d > held);
            boolean dots = deeper && chance(70) || chance(1);
            text.append(' ').append(template(variables, held + (dots ? 1 : 0), depth - 1)).append(dots ? " .." : "");
        }
        return text.toString();
    }

    private String leaf() {
        int kind = upTo(12);
        return kind < 4 ? Integer.toString(upTo(100)) : kind < 5 ? "_" : kind < 6 ? "+" : shortName();
    }

    /** A program; the names that it may use without binding them are given. */
    String program(List<String> bound, int depth) {
        if (depth <= 0 || chance(12)) {
            return bound.isEmpty() || chance(40) ? Integer.toString(upTo(12)) : bound.get(upTo(bound.size()));
        }
        int kind = upTo(12);
        if (kind < 3) {
            return fn(bound, depth);
        }
        if (kind < 5) {
            String name = chance(85) ? shortName() : anyName();
            String named = namedRules(name, 2 + upTo(2));
            return "(ls " + named + " " + program(bound, depth - 1) + ")";
        }
        if (kind < 9 && !known.isEmpty()) {
            return use(anyKnown(), bound, depth);
        }
        if (kind == 9) {
            return "(if " + program(bound, depth - 1) + " " + program(bound, 0) + " " + program(bound, depth - 1) + ")";
        }
        return "(" + (chance(80) ? "+ " : "") + program(bound, depth - 1) + " " + program(bound, depth - 1)
            + (chance(2) ? " .." : "") + ")";
    }

    private String fn(List<String> bound, int depth) {
        List<String> inner = new ArrayList<>(bound);
        StringBuilder names = new StringBuilder();
        int howMany = upTo(3);
        for (int k = 0; k < howMany; k++) {
            String name = chance(95) ? shortName() : anyName();
            names.append(k > 0 ? " " : "").append(name);
            inner.add(name);
        }
        return "(fn (" + names + ") " + program(inner, depth - 1) + ")";
    }

    /** A list that the pattern known for the name would match, but for small slips. */
    private String use(String name, List<String> bound, int depth) {
        String pattern = known.get(name);
        StringBuilder text = new StringBuilder();
        for (String token : pattern.substring(1).trim().split("(?<=[( )])|(?=[( )])")) {
            if (token.matches("[a-z+]+|_")) {
                text.append(text.length() == 0 ? "(" + name : argument(bound, depth - 1 - upTo(2)));
            } else if (token.equals("..")) {
                int rounds = upTo(3);
                for (int k = 0; k < rounds; k++) {
                    text.append(lastTree(text)).append(' ');
                }
            } else if (!token.isEmpty()) {
                text.append(token);
            }
        }
        return text.toString();
    }

    private String argument(List<String> bound, int depth) {
        return chance(5) ? "" : chance(20) ? shortName() : program(bound, depth);
    }

    private static String lastTree(CharSequence text) {
        String trimmed = text.toString().trim();
        int depth = 0;
        for (int i = trimmed.length() - 1; i >= 0; i--) {
            char c = trimmed.charAt(i);
            depth += c == ')' ? 1 : c == '(' ? -1 : 0;
            if (depth <= 0 && (c == '(' || i == 0 || trimmed.charAt(i - 1) == ' ' || trimmed.charAt(i - 1) == '(')) {
                return " " + trimmed.substring(i);
            }
        }
        return "";
    }

    /** The text with some characters changed, added or taken. */
    String spoiled(String text) {
        StringBuilder spoiled = new StringBuilder(text);
        int howMany = 1 + upTo(2);
        for (int k = 0; k < howMany && spoiled.length() > 0; k++) {
            int at = upTo(spoiled.length());
            String one = new String[] {"(", ")", " ..", " ", "_", "1", "a", ".", "0", "abcd", "A", "x", " m ", "()"}[upTo(14)];
            switch (upTo(3)) {
                case 0:
                    spoiled.insert(at, one);
                    break;
                case 1:
                    spoiled.replace(at, at + 1, one);
                    break;
                default:
                    spoiled.deleteCharAt(at);
                    break;
            }
        }
        return spoiled.toString();
    }
}
