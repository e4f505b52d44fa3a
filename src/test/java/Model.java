import java.util.ArrayList;
import java.util.HashMap;
import java.util.LinkedHashMap;
import java.util.List;
import java.util.Map;
import java.util.TreeSet;

/** The document told once more, with objects and recursion, to hold the class against. */
final class Model {
    /** A tree, or .. in a list's items. */
    static final class Tree {
        char kind; // n name, # number, _ blank, ( list, . dots
        String name = "";
        int number;
        TreeSet<Integer> scopes = new TreeSet<>();
        List<Tree> items = new ArrayList<>();

        Tree(char kind) {
            this.kind = kind;
        }

        boolean hasDots() {
            for (Tree t : items) {
                if (t.kind == '.') {
                    return true;
                }
            }
            return false;
        }

        boolean isPlainList(int length) {
            return kind == '(' && !hasDots() && items.size() == length;
        }

        String key() {
            return name + scopes;
        }

        Tree copy() {
            Tree t = new Tree(kind);
            t.name = name;
            t.number = number;
            t.scopes = new TreeSet<>(scopes);
            for (Tree item : items) {
                t.items.add(item.copy());
            }
            return t;
        }

        void turn(int scope) {
            if (kind == 'n' && !scopes.remove(scope)) {
                scopes.add(scope);
            }
            for (Tree t : items) {
                t.turn(scope);
            }
        }

        void give(int scope) {
            if (kind == 'n') {
                scopes.add(scope);
            }
            for (Tree t : items) {
                t.give(scope);
            }
        }

        String text() {
            switch (kind) {
                case 'n':
                    return name;
                case '#':
                    return Integer.toString(number);
                case '_':
                    return "_";
                case '.':
                    return "..";
                default:
                    List<String> texts = new ArrayList<>();
                    for (Tree t : items) {
                        texts.add(t.text());
                    }
                    return "(" + String.join(" ", texts) + ")";
            }
        }
    }

    static final class Fault extends RuntimeException {
        private static final long serialVersionUID = 1L;
        final int number;

        Fault(int number) {
            this.number = number;
        }
    }

    record Binding(String name, TreeSet<Integer> scopes, String kind, int variable, List<Tree> rules) { }

    /** What a variable matched: a tree, or the rounds of a .. */
    static final class Match {
        Tree tree;
        List<Match> rounds;
    }

    private String typed = "";
    private String made = "";
    private final Map<String, List<Tree>> own = new LinkedHashMap<>();
    private List<Binding> table = new ArrayList<>();
    private StringBuilder out = new StringBuilder();
    int scopes;
    int bindings;
    int variables;
    int fuel;

    // Reading

    private int place;

    boolean type(String piece) {
        if (piece.isEmpty() || piece.length() > 4 || typed.length() + piece.length() > 120) {
            return false;
        }
        for (char c : piece.toCharArray()) {
            if (c < 32 || c > 126) {
                return false;
            }
        }
        typed += piece;
        return true;
    }

    private Tree read(String text) {
        place = 0;
        Tree tree = readTree(text, 0);
        skipSpaces(text);
        if (place < text.length()) {
            throw new Fault(place);
        }
        return tree;
    }

    private void skipSpaces(String text) {
        while (place < text.length() && text.charAt(place) == ' ') {
            place++;
        }
    }

    private String token(String text) {
        skipSpaces(text);
        if (place == text.length()) {
            throw new Fault(place);
        }
        String rest = text.substring(place);
        if (rest.matches("[a-z]+.*")) {
            return rest.replaceAll("[^a-z].*", "");
        }
        if (rest.matches("[0-9]+.*")) {
            return rest.replaceAll("[^0-9].*", "");
        }
        return rest.startsWith("..") ? ".." : rest.substring(0, 1);
    }

    private Tree readTree(String text, int depth) {
        String token = token(text);
        Tree tree;
        if (token.matches("[a-z]{1,3}|[+*=<]")) {
            tree = new Tree('n');
            tree.name = token;
        } else if (token.matches("0|[1-9][0-9]?")) {
            tree = new Tree('#');
            tree.number = Integer.parseInt(token);
        } else if (token.equals("_")) {
            tree = new Tree('_');
        } else if (token.equals("(") && depth < 8) {
            place++;
            return readItems(text, depth);
        } else {
            throw new Fault(place);
        }
        place += token.length();
        return tree;
    }

    private Tree readItems(String text, int depth) {
        Tree list = new Tree('(');
        boolean dotsMay = false;
        while (!token(text).equals(")")) {
            if (token(text).equals("..")) {
                if (!dotsMay) {
                    throw new Fault(place);
                }
                dotsMay = false;
                place += 2;
                list.items.add(new Tree('.'));
            } else {
                list.items.add(readTree(text, depth + 1));
                dotsMay = true;
            }
        }
        place++;
        return list;
    }

    // Rules as told

    private static boolean rulesAsTold(List<Tree> rules) {
        for (Tree rule : rules) {
            if (!rule.isPlainList(2) || !ruleAsTold(rule.items.get(0), rule.items.get(1))) {
                return false;
            }
        }
        return true;
    }

    private static boolean ruleAsTold(Tree pattern, Tree template) {
        if (pattern.kind != '(' || pattern.items.isEmpty()) {
            return false;
        }
        List<Tree> items = pattern.items;
        if (items.size() > 1 && items.get(1).kind == '.') {
            return false;
        }
        Map<String, Integer> depths = new HashMap<>();
        return patternItems(items.subList(1, items.size()), 0, depths) && templateAsTold(template, 0, depths);
    }

    private static boolean patternItems(List<Tree> items, int held, Map<String, Integer> depths) {
        for (int i = 0; i < items.size(); i++) {
            Tree t = items.get(i);
            if (t.kind == '.') {
                if (i != items.size() - 1) {
                    return false;
                }
                continue;
            }
            int depth = held + (i + 1 < items.size() && items.get(i + 1).kind == '.' ? 1 : 0);
            if (depth > 2) {
                return false;
            }
            if (t.kind == 'n' && depths.put(t.key(), depth) != null) {
                return false;
            }
            if (t.kind == '(' && !patternItems(t.items, depth, depths)) {
                return false;
            }
        }
        return true;
    }

    private static boolean templateAsTold(Tree t, int held, Map<String, Integer> depths) {
        if (t.kind == 'n' && depths.containsKey(t.key()) && depths.get(t.key()) != held || held > 2) {
            return false;
        }
        for (int i = 0; i < t.items.size(); i++) {
            Tree item = t.items.get(i);
            boolean isHeld = i + 1 < t.items.size() && t.items.get(i + 1).kind == '.';
            if (isHeld && uses(item, depths).isEmpty() || !templateAsTold(item, held + (isHeld ? 1 : 0), depths)) {
                return false;
            }
        }
        return true;
    }

    private static List<String> uses(Tree t, Map<String, ?> variables) {
        List<String> uses = new ArrayList<>();
        if (t.kind == 'n' && variables.containsKey(t.key())) {
            uses.add(t.key());
        }
        for (Tree item : t.items) {
            uses.addAll(uses(item, variables));
        }
        return uses;
    }

    // Matching and filling

    private static Map<String, Match> match(Tree pattern, Tree tree, boolean whole) {
        Map<String, Match> found = new HashMap<>();
        if (pattern.kind == 'n') {
            Match m = new Match();
            m.tree = tree;
            found.put(pattern.key(), m);
            return found;
        }
        if (pattern.kind == '_') {
            return found;
        }
        if (pattern.kind == '#') {
            return tree.kind == '#' && tree.number == pattern.number ? found : null;
        }
        if (tree.kind != '(' || tree.hasDots()) {
            return null;
        }
        int fixed = pattern.hasDots() ? pattern.items.size() - 2 : pattern.items.size();
        if (tree.items.size() < fixed || !pattern.hasDots() && tree.items.size() != fixed) {
            return null;
        }
        for (int i = whole ? 1 : 0; i < fixed; i++) {
            Map<String, Match> part = match(pattern.items.get(i), tree.items.get(i), false);
            if (part == null) {
                return null;
            }
            found.putAll(part);
        }
        return pattern.hasDots() ? matchRounds(pattern.items.get(fixed), tree, fixed, found) : found;
    }

    private static Map<String, Match> matchRounds(Tree held, Tree tree, int from, Map<String, Match> found) {
        for (String name : allNames(held)) {
            Match m = new Match();
            m.rounds = new ArrayList<>();
            found.put(name, m);
        }
        for (int i = from; i < tree.items.size(); i++) {
            Map<String, Match> round = match(held, tree.items.get(i), false);
            if (round == null) {
                return null;
            }
            round.forEach((name, m) -> found.get(name).rounds.add(m));
        }
        return found;
    }

    private static List<String> allNames(Tree t) {
        List<String> names = new ArrayList<>();
        if (t.kind == 'n') {
            names.add(t.key());
        }
        for (Tree item : t.items) {
            names.addAll(allNames(item));
        }
        return names;
    }

    private int filled;

    private void countFilled(Tree t) {
        if (t.kind != '.' && ++filled > 100) {
            throw new Fault(6);
        }
        for (Tree item : t.items) {
            countFilled(item);
        }
    }

    private Tree fill(Tree t, Map<String, Match> found) {
        if (t.kind == 'n' && found.containsKey(t.key())) {
            Tree brought = found.get(t.key()).tree.copy();
            countFilled(brought);
            return brought;
        }
        if (++filled > 100) {
            throw new Fault(6);
        }
        if (t.kind != '(') {
            return t.copy();
        }
        Tree list = new Tree('(');
        for (int i = 0; i < t.items.size(); i++) {
            Tree item = t.items.get(i);
            if (i + 1 < t.items.size() && t.items.get(i + 1).kind == '.') {
                fillRounds(list, item, found);
                i++;
            } else {
                list.items.add(fill(item, found));
            }
        }
        return list;
    }

    private void fillRounds(Tree list, Tree held, Map<String, Match> found) {
        List<String> uses = uses(held, found);
        int rounds = found.get(uses.get(0)).rounds.size();
        for (String use : uses) {
            if (found.get(use).rounds.size() != rounds) {
                throw new Fault(4);
            }
        }
        for (int r = 0; r < rounds; r++) {
            Map<String, Match> inRound = new HashMap<>(found);
            for (String use : uses) {
                inRound.put(use, found.get(use).rounds.get(r));
            }
            list.items.add(fill(held, inRound));
        }
    }

    // Expanding

    private Binding meaning(Tree name) {
        List<Binding> fitting = new ArrayList<>();
        for (Binding b : table) {
            if (b.name.equals(name.name) && name.scopes.containsAll(b.scopes)) {
                fitting.add(b);
            }
        }
        if (fitting.isEmpty()) {
            throw new Fault(1);
        }
        for (Binding b : fitting) {
            boolean all = true;
            for (Binding other : fitting) {
                all &= b.scopes.containsAll(other.scopes);
            }
            if (all) {
                return b;
            }
        }
        throw new Fault(2);
    }

    private void bind(Tree name, String kind, int variable, List<Tree> rules) {
        if (table.size() == 40) {
            throw new Fault(6);
        }
        table.add(new Binding(name.name, new TreeSet<>(name.scopes), kind, variable, rules));
        bindings++;
    }

    private int newScope() {
        if (scopes == 30) {
            throw new Fault(6);
        }
        return scopes++;
    }

    private void put(String text) {
        out.append(text);
        if (out.length() > 200) {
            throw new Fault(6);
        }
    }

    private void expandTree(Tree t, int around) {
        switch (t.kind) {
            case '#':
                put(t.text());
                break;
            case 'n':
                Binding b = meaning(t);
                if (b.kind.equals("value")) {
                    put(t.name);
                } else if (b.kind.equals("variable")) {
                    put("v" + b.variable);
                } else {
                    throw new Fault(3);
                }
                break;
            case '(':
                expandList(t, around);
                break;
            default:
                throw new Fault(3);
        }
    }

    private void expandList(Tree t, int around) {
        if (around > 9) {
            throw new Fault(6);
        }
        if (t.items.isEmpty()) {
            throw new Fault(3);
        }
        String kind = "";
        Binding b = null;
        if (t.items.get(0).kind == 'n') {
            b = meaning(t.items.get(0));
            kind = b.kind;
        }
        if (kind.equals("core")) {
            expandCore(t, t.items.get(0).name, around);
        } else if (kind.equals("rules")) {
            expandTree(rewrite(t, b.rules), around);
        } else {
            put("(");
            for (int i = 0; i < t.items.size(); i++) {
                put(i > 0 ? " " : "");
                expandTree(t.items.get(i), around + 1);
            }
            put(")");
        }
    }

    private Tree rewrite(Tree t, List<Tree> rules) {
        if (fuel == 0) {
            throw new Fault(5);
        }
        fuel--;
        int scope = newScope();
        t.turn(scope);
        for (Tree rule : rules) {
            Map<String, Match> found = match(rule.items.get(0), t, true);
            if (found != null) {
                filled = 0;
                Tree became = fill(rule.items.get(1), found);
                became.turn(scope);
                return became;
            }
        }
        throw new Fault(4);
    }

    private void expandCore(Tree t, String form, int around) {
        List<Tree> items = t.items;
        if (form.equals("q") && t.isPlainList(2)) {
            put(t.text());
        } else if (form.equals("if") && t.isPlainList(4)) {
            put("(if");
            for (Tree part : items.subList(1, 4)) {
                put(" ");
                expandTree(part, around + 1);
            }
            put(")");
        } else if (form.equals("fn") && t.isPlainList(3) && areNames(items.get(1))) {
            expandFn(items.get(1), items.get(2), around);
        } else if (form.equals("ls") && t.isPlainList(3) && isNameWithRules(items.get(1))) {
            Tree name = items.get(1).items.get(0);
            int scope = newScope();
            name.give(scope);
            items.get(2).give(scope);
            bind(name, "rules", 0, items.get(1).items.subList(1, items.get(1).items.size()));
            expandTree(items.get(2), around + 1);
        } else {
            throw new Fault(3);
        }
    }

    private static boolean areNames(Tree list) {
        if (list.kind != '(') {
            return false;
        }
        for (Tree t : list.items) {
            if (t.kind != 'n') {
                return false;
            }
        }
        return true;
    }

    private static boolean isNameWithRules(Tree list) {
        return list.kind == '(' && !list.hasDots() && !list.items.isEmpty() && list.items.get(0).kind == 'n'
            && rulesAsTold(list.items.subList(1, list.items.size()));
    }

    private void expandFn(Tree names, Tree body, int around) {
        int scope = newScope();
        names.give(scope);
        body.give(scope);
        List<String> before = new ArrayList<>();
        List<String> texts = new ArrayList<>();
        for (Tree name : names.items) {
            if (before.contains(name.key())) {
                throw new Fault(3);
            }
            before.add(name.key());
            bind(name, "variable", variables, null);
            texts.add("v" + variables);
            variables++;
        }
        put("(fn (" + String.join(" ", texts) + ") ");
        expandTree(body, around + 1);
        put(")");
    }

    // The face

    private void startTable() {
        table = new ArrayList<>();
        for (String core : List.of("fn", "if", "q", "ls")) {
            table.add(new Binding(core, new TreeSet<>(), "core", 0, null));
        }
        for (String value : List.of("+", "*", "=", "<")) {
            table.add(new Binding(value, new TreeSet<>(), "value", 0, null));
        }
        own.forEach((name, rules) -> table.add(new Binding(name, new TreeSet<>(), "rules", 0, rules)));
    }

    int giveRules() {
        String text = typed;
        typed = "";
        Tree tree;
        try {
            tree = read(text);
        } catch (Fault f) {
            return -1 - f.number;
        }
        if (!isNameWithRules(tree)) {
            return -1000;
        }
        String name = tree.items.get(0).name;
        if (List.of("fn", "if", "q", "ls", "+", "*", "=", "<").contains(name)
            || own.size() == 4 && !own.containsKey(name)) {
            return -1001;
        }
        own.put(name, tree.items.subList(1, tree.items.size()));
        return own.size();
    }

    int expandTyped(int withFuel) {
        if (withFuel < 0 || withFuel > 8) {
            return -7000;
        }
        String text = typed;
        typed = "";
        made = "";
        scopes = 0;
        bindings = 0;
        variables = 0;
        fuel = 0;
        Tree tree;
        try {
            tree = read(text);
        } catch (Fault f) {
            return -1 - f.number;
        }
        fuel = withFuel;
        out = new StringBuilder();
        startTable();
        try {
            expandTree(tree, 0);
        } catch (Fault f) {
            return -1000 * f.number;
        }
        made = out.toString();
        return made.length();
    }

    String madeText() {
        return made;
    }

    String counts() {
        return scopes + " " + bindings + " " + variables + " " + fuel;
    }
}
