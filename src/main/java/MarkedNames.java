/**
 * Programs of nested brackets whose new forms are made by rules. Every name bears the set of
 * scopes that it has been through, and means the binding whose scopes fit it best.
 */
public final class MarkedNames {
    private static final int MOST_TYPED = 120;
    private static final int MOST_MADE = 200;
    private static final int MOST_FUEL = 8;
    private static final int MOST_SCOPES = 30;
    private static final int MOST_BINDINGS = 40;
    private static final int MOST_OWN = 4;
    private static final int MOST_FILLED = 100;
    private static final int MOST_AROUND = 9;
    private static final int MOST_BRACKETS = 8;
    private static final int MOST_HOLDERS = 2;

    /** Where the trees of a call begin; the rules that last stand before it. */
    private static final int WORK = MOST_OWN * MOST_TYPED;
    /** A filled tree has a token, a closing bracket and .. for each of its trees, if it has all. */
    private static final int PLACES = WORK + MOST_TYPED + MOST_FUEL * 3 * MOST_FILLED;
    /** Far above the steps that any loop over tokens can need. */
    private static final int MANY = 1000000;

    // A word is a number (0 .. 99), a name (above 255: 1 and its letters, a byte each) or one of these.
    private static final int OPEN = -1;
    private static final int CLOSE = -2;
    private static final int DOTS = -3;
    private static final int BLANK = -4;

    private static final int FN = (1 << 16) | ('f' << 8) | 'n';
    private static final int IF = (1 << 16) | ('i' << 8) | 'f';
    private static final int Q = (1 << 8) | 'q';
    private static final int LS = (1 << 16) | ('l' << 8) | 's';
    private static final int[] FIRST_NAMES = {
        FN, IF, Q, LS, (1 << 8) | '+', (1 << 8) | '*', (1 << 8) | '=', (1 << 8) | '<'
    };

    // What a name can mean; the first four are the core forms, in the order of their names above.
    private static final int FN_FORM = 0;
    private static final int IF_FORM = 1;
    private static final int Q_FORM = 2;
    private static final int LS_FORM = 3;
    private static final int VALUE = 4;
    private static final int VARIABLE = 5;
    private static final int RULES = 6;

    private static final int UNBOUND_ERROR = 1;
    private static final int AMBIGUOUS_ERROR = 2;
    private static final int FORM_ERROR = 3;
    private static final int MATCH_ERROR = 4;
    private static final int FUEL_ERROR = 5;
    private static final int LIMIT_ERROR = 6;

    private final int[] typed;
    private int typedLength;
    private final Row row;
    private final Reader reader;
    private final RuleCheck check;
    private final Table table;
    private final Outcome outcome;
    private final Expander expander;

    public MarkedNames() {
        typed = new int[MOST_TYPED];
        row = new Row();
        reader = new Reader(row);
        check = new RuleCheck(row);
        table = new Table();
        outcome = new Outcome();
        expander = new Expander(row, check, table, outcome);
    }

    public boolean type(int word, int n) {
        if (n < 1 || n > 4 || typedLength + n > MOST_TYPED) {
            return false;
        }
        for (int k = 0; k < n; k++) {
            int c = (word >> (8 * k)) & 255;
            if (c < 32 || c > 126) {
                return false;
            }
        }
        for (int k = n - 1; k >= 0; k--) {
            appendTyped((word >> (8 * k)) & 255);
        }
        return true;
    }

    public int rules() {
        int fault = takeTyped();
        if (fault >= 0) {
            return -1 - fault;
        }
        if (!check.isNameWithRules(WORK)) {
            return -1000;
        }
        int name = row.wordAt(WORK + 1);
        int slot = table.ownSlot(name);
        if (slot < 0) {
            return -1001;
        }
        table.bindOwn(slot, name, row.keep(WORK, slot));
        return table.ownNames;
    }

    public int expand(int fuel) {
        if (fuel < 0 || fuel > MOST_FUEL) {
            return -7000;
        }
        int fault = takeTyped();
        outcome.clear();
        expander.start(fault >= 0 ? 0 : fuel);
        if (fault >= 0) {
            return -1 - fault;
        }
        expander.expandTree(WORK, 0);
        if (outcome.error != 0) {
            outcome.length = 0;
            return -1000 * outcome.error;
        }
        return outcome.length;
    }

    public int at(int i) {
        return outcome.charAt(i);
    }

    public int count(int what) {
        switch (what) {
            case 0:
                return expander.scopes;
            case 1:
                return expander.bindings;
            case 2:
                return expander.variables;
            case 3:
                return expander.fuel;
            default:
                return -1;
        }
    }

    private void appendTyped(int c) {
        if (typedLength >= 0 && typedLength < typed.length) {
            typed[typedLength] = c;
            typedLength++;
        }
    }

    /** Reads what is typed as a tree at WORK and forgets it; the place of its fault, or -1. */
    private int takeTyped() {
        int fault = reader.read(typed, typedLength);
        typedLength = 0;
        return fault;
    }

    private static boolean isName(int word) {
        return word > 255;
    }

    private static boolean isNumber(int word) {
        return word >= 0 && word < 100;
    }

    private static boolean isTree(int word) {
        return word != CLOSE && word != DOTS;
    }

    /** Trees in the order they are read in, a token a place; the place of its first token names a tree. */
    private static final class Row {
        private final int[] word = new int[PLACES];
        private final int[] marks = new int[PLACES];
        /** How many tokens a tree has; for a bracket that is not closed yet, the place of the one around it. */
        private final int[] size = new int[PLACES];
        /** For a use in a template, how far before it its variable stands; else 0. */
        private final int[] use = new int[PLACES];
        private int top = WORK;
        private int open = -1;

        void restart() {
            top = WORK;
            open = -1;
        }

        /** The place of the tree whose tokens are added next. */
        int startTree() {
            open = -1;
            return top;
        }

        void add(int newWord, int newMarks) {
            if (top < 0 || top >= PLACES) {
                return;
            }
            word[top] = newWord;
            marks[top] = newMarks;
            size[top] = 1;
            use[top] = 0;
            if (newWord == OPEN) {
                size[top] = open;
                open = top;
            } else if (newWord == CLOSE) {
                closeBracket();
            }
            top++;
        }

        private void closeBracket() {
            if (open < 0 || open >= PLACES) {
                return;
            }
            int around = size[open];
            size[open] = top - open + 1;
            open = around;
        }

        int wordAt(int i) {
            return i >= 0 && i < top && i < PLACES ? word[i] : CLOSE;
        }

        int marksAt(int i) {
            return i >= 0 && i < top && i < PLACES ? marks[i] : 0;
        }

        /** The place of the variable of which the name at i is a use; -1 if it is none. */
        int variableAt(int i) {
            return i >= 0 && i < top && i < PLACES && use[i] > 0 ? i - use[i] : -1;
        }

        void setVariable(int i, int variable) {
            if (i >= 0 && i < top && i < PLACES) {
                use[i] = variable < 0 ? 0 : i - variable;
            }
        }

        boolean hasUse(int tree) {
            if (tree < 0 || tree >= top || tree >= PLACES) {
                return false;
            }
            for (int k = tree; k < tree + size[tree] && k < top && k < PLACES; k++) {
                if (use[k] > 0) {
                    return true;
                }
            }
            return false;
        }

        /** The place behind the tree, or the token, at i; always beyond i. */
        int after(int i) {
            return i >= 0 && i < top && i < PLACES && size[i] > 1 ? i + size[i] : i + 1;
        }

        /** Whether .. stands behind the tree at this place. */
        boolean isHeld(int tree) {
            if (tree < 0 || tree >= top || tree >= PLACES || word[tree] == CLOSE) {
                return false;
            }
            int behind = tree + size[tree];
            return behind >= 0 && behind < top && behind < PLACES && word[behind] == DOTS;
        }

        /** How many trees and .. stand from place i to the end of their bracket. */
        int itemsFrom(int i) {
            int items = 0;
            int depth = 0;
            for (int k = i < 0 ? 0 : i; k < top && k < PLACES && depth >= 0; k++) {
                if (word[k] == CLOSE) {
                    depth--;
                } else {
                    items += depth == 0 ? 1 : 0;
                    depth += word[k] == OPEN ? 1 : 0;
                }
            }
            return items;
        }

        /** Whether .. stands in the list itself, not only in lists in it. */
        boolean hasDots(int list) {
            int depth = 0;
            for (int k = list < 0 ? 0 : list + 1; k < top && k < PLACES && depth >= 0; k++) {
                if (word[k] == DOTS && depth == 0) {
                    return true;
                }
                depth += word[k] == OPEN ? 1 : word[k] == CLOSE ? -1 : 0;
            }
            return false;
        }

        /** How many trees are in the list; -1 if it is no list or has .. in it. */
        int plainLength(int list) {
            return wordAt(list) != OPEN || hasDots(list) ? -1 : itemsFrom(list + 1);
        }

        /** How many .. inside the tree root hold what is at place i of it. */
        int holders(int root, int i) {
            int holders = 0;
            for (int k = root < 0 ? 0 : root + 1; k <= i && k < top && k < PLACES; k++) {
                int behind = k + size[k];
                if (behind > i && behind < top && behind < PLACES && word[k] != CLOSE && word[behind] == DOTS) {
                    holders++;
                }
            }
            return holders;
        }

        /** The first place in from .. to - 1 of a name with the name and set of the one at i; -1 if none. */
        int findName(int from, int to, int i) {
            if (i < 0 || i >= top || i >= PLACES || word[i] <= 255) {
                return -1;
            }
            for (int k = from < 0 ? 0 : from; k < to && k < top && k < PLACES; k++) {
                if (word[k] == word[i] && marks[k] == marks[i]) {
                    return k;
                }
            }
            return -1;
        }

        void turnScope(int tree, int scope) {
            int end = after(tree);
            for (int k = tree < 0 ? 0 : tree; k < end && k < top && k < PLACES; k++) {
                if (isName(word[k])) {
                    marks[k] ^= 1 << scope;
                }
            }
        }

        /** Copies a list to where the rules of that slot last; its place there. */
        int keep(int list, int slot) {
            int length = after(list) - list;
            int to = slot * MOST_TYPED;
            if (list < 0 || list + length > PLACES || length > MOST_TYPED || slot < 0 || slot >= MOST_OWN) {
                return list;
            }
            System.arraycopy(word, list, word, to, length);
            System.arraycopy(marks, list, marks, to, length);
            System.arraycopy(size, list, size, to, length);
            System.arraycopy(use, list, use, to, length);
            return to;
        }
    }

    /** Reads a text into the row. */
    private static final class Reader {
        private final Row row;
        private int depth;

        Reader(Row row) {
            this.row = row;
        }

        /** The place of the text's fault; -1 if it is one tree, which then stands at WORK. */
        int read(int[] text, int length) {
            row.restart();
            depth = 0;
            int end = Math.min(length, text.length);
            int i = 0;
            for (int step = 0; step < MANY && i < end; step++) {
                int taken = text[i] == ' ' ? 1 : readToken(text, end, i);
                if (taken == 0) {
                    return i;
                }
                i += taken;
            }
            return isWhole() ? -1 : end;
        }

        private boolean isWhole() {
            return depth == 0 && row.top > WORK;
        }

        /** Takes the token at place i; its length, 0 if it cannot stand there. */
        private int readToken(int[] text, int end, int i) {
            if (isWhole() || i < 0 || i >= text.length) {
                return 0;
            }
            int c = text[i];
            if (c >= 'a' && c <= 'z') {
                return readName(text, i, runLength(text, end, i, 'a', 'z'));
            }
            if (c >= '0' && c <= '9') {
                return readNumber(text, i, runLength(text, end, i, '0', '9'));
            }
            switch (c) {
                case '(':
                    return readOpen();
                case ')':
                    return readClose();
                case '.':
                    return readDots(runLength(text, end, i, '.', '.'));
                case '_':
                    row.add(BLANK, 0);
                    return 1;
                case '+':
                case '*':
                case '=':
                case '<':
                    return readName(text, i, 1);
                default:
                    return 0;
            }
        }

        private static int runLength(int[] text, int end, int from, int lowest, int highest) {
            int length = 0;
            for (int k = from < 0 ? 0 : from; k < end && k < text.length; k++) {
                if (text[k] < lowest || text[k] > highest) {
                    break;
                }
                length++;
            }
            return length;
        }

        private int readName(int[] text, int from, int length) {
            if (length > 3) {
                return 0;
            }
            int name = 1;
            for (int k = from < 0 ? 0 : from; k < from + length && k < text.length; k++) {
                name = (name << 8) | text[k];
            }
            row.add(name, 0);
            return length;
        }

        private int readNumber(int[] text, int from, int length) {
            if (length > 2 || from < 0 || from >= text.length || (length == 2 && text[from] == '0')) {
                return 0;
            }
            int number = 0;
            for (int k = from; k < from + length && k < text.length; k++) {
                number = number * 10 + text[k] - '0';
            }
            row.add(number, 0);
            return length;
        }

        private int readOpen() {
            if (depth >= MOST_BRACKETS) {
                return 0;
            }
            depth++;
            row.add(OPEN, 0);
            return 1;
        }

        private int readClose() {
            if (depth <= 0) {
                return 0;
            }
            depth--;
            row.add(CLOSE, 0);
            return 1;
        }

        private int readDots(int points) {
            int before = row.wordAt(row.top - 1);
            if (points < 2 || depth == 0 || before == OPEN || before == DOTS) {
                return 0;
            }
            row.add(DOTS, 0);
            return 2;
        }
    }

    /** Looks whether rules are as told, and links the uses in their templates to their variables. */
    private static final class RuleCheck {
        private final Row row;

        RuleCheck(Row row) {
            this.row = row;
        }

        boolean isNameWithRules(int list) {
            int length = row.plainLength(list);
            if (length < 1 || !isName(row.wordAt(list + 1))) {
                return false;
            }
            int rule = list + 2;
            for (int k = 1; k < length; k++) {
                if (!isRule(rule)) {
                    return false;
                }
                rule = row.after(rule);
            }
            return true;
        }

        private boolean isRule(int rule) {
            if (row.plainLength(rule) != 2) {
                return false;
            }
            int pattern = rule + 1;
            int template = row.after(pattern);
            if (!isPattern(pattern)) {
                return false;
            }
            linkUses(pattern, template);
            return isTemplate(pattern, template);
        }

        private boolean isPattern(int pattern) {
            int first = pattern + 1;
            if (row.wordAt(pattern) != OPEN || row.wordAt(first) == CLOSE || row.isHeld(first)) {
                return false;
            }
            int start = row.after(first);
            int end = row.after(pattern);
            for (int i = start; i < end; i++) {
                int word = row.wordAt(i);
                if (word == DOTS && row.wordAt(i + 1) != CLOSE) {
                    return false;
                }
                if (isTree(word) && row.holders(pattern, i) > MOST_HOLDERS) {
                    return false;
                }
                if (row.findName(start, i, i) >= 0) {
                    return false;
                }
            }
            return true;
        }

        private void linkUses(int pattern, int template) {
            int start = row.after(pattern + 1);
            int end = row.after(template);
            for (int i = template; i < end; i++) {
                row.setVariable(i, row.findName(start, template, i));
            }
        }

        private boolean isTemplate(int pattern, int template) {
            int end = row.after(template);
            for (int i = template; i < end; i++) {
                int variable = row.variableAt(i);
                if (variable >= 0 && row.holders(template, i) != row.holders(pattern, variable)) {
                    return false;
                }
                if (row.isHeld(i) && !row.hasUse(i)) {
                    return false;
                }
            }
            return true;
        }
    }

    /** The .. that are being gone through, the outermost first, and the round that each is in. */
    private static final class Rounds {
        private final int[] held = new int[MOST_HOLDERS];
        private final int[] round = new int[MOST_HOLDERS];
        private final int[] rounds = new int[MOST_HOLDERS];
        private int depth;

        void clear() {
            depth = 0;
        }

        private boolean hasInner() {
            return depth > 0 && depth <= MOST_HOLDERS;
        }

        boolean isIn(int tree) {
            return hasInner() && held[depth - 1] == tree;
        }

        void enter(int tree, int howMany) {
            if (depth >= 0 && depth < MOST_HOLDERS) {
                held[depth] = tree;
                round[depth] = 0;
                rounds[depth] = howMany;
                depth++;
            }
        }

        /** From where to go on when the .. at this place is come to: the next round, or what is behind it. */
        int leave(int dots) {
            if (!hasInner()) {
                return dots + 1;
            }
            round[depth - 1]++;
            if (round[depth - 1] < rounds[depth - 1]) {
                return held[depth - 1];
            }
            depth--;
            return dots + 1;
        }

        int roundOf(int level) {
            return level >= 0 && level < depth && level < MOST_HOLDERS ? round[level] : 0;
        }
    }

    /** Matches patterns and fills templates, token by token and without recursion, as trees may be deep here. */
    private static final class Filler {
        private final Row row;
        private final Outcome outcome;
        private final Rounds rounds = new Rounds();
        private int pattern;
        private int matched;
        private int filled;

        Filler(Row row, Outcome outcome) {
            this.row = row;
            this.outcome = outcome;
        }

        /** The first of the rules behind the name of this list whose pattern matches the tree; -1 if none. */
        int firstRule(int list, int tree) {
            int length = row.plainLength(list);
            int rule = list + 2;
            for (int k = 1; k < length; k++) {
                if (matches(rule + 1, tree)) {
                    return rule;
                }
                rule = row.after(rule);
            }
            return -1;
        }

        private boolean matches(int whole, int tree) {
            if (!hasRoomFor(whole, tree)) {
                return false;
            }
            rounds.clear();
            int end = row.after(whole);
            int p = row.after(whole + 1);
            int t = row.after(tree + 1);
            for (int step = 0; step < MANY && p < end; step++) {
                if (row.isHeld(p) && !rounds.isIn(p)) {
                    int howMany = row.itemsFrom(t);
                    if (howMany == 0) {
                        p = row.after(p) + 1;
                        continue;
                    }
                    rounds.enter(p, howMany);
                }
                int word = row.wordAt(p);
                if (word == DOTS) {
                    p = rounds.leave(p);
                } else if (isName(word) || word == BLANK) {
                    p++;
                    t = row.after(t);
                } else if (word == OPEN ? hasRoomFor(p, t) : row.wordAt(t) == word) {
                    p++;
                    t++;
                } else {
                    return false;
                }
            }
            return true;
        }

        /** Whether the tree is a list without .. of as many trees as the pattern's list can match. */
        private boolean hasRoomFor(int list, int tree) {
            int length = row.plainLength(tree);
            int items = row.itemsFrom(list + 1);
            return row.hasDots(list) ? length >= items - 2 : length == items;
        }

        /** Fills the rule's template with what its pattern matched in the tree; the place of what it became. */
        int fill(int rule, int tree) {
            pattern = rule + 1;
            matched = tree;
            filled = 0;
            rounds.clear();
            int start = row.startTree();
            int i = row.after(pattern);
            int end = row.after(i);
            for (int step = 0; step < MANY && i < end && outcome.error == 0; step++) {
                if (row.isHeld(i) && !rounds.isIn(i)) {
                    int howMany = roundsFor(i);
                    if (howMany == 0) {
                        i = row.after(i) + 1;
                        continue;
                    }
                    rounds.enter(i, howMany);
                }
                if (row.wordAt(i) == DOTS) {
                    i = rounds.leave(i);
                } else {
                    fillToken(i);
                    i++;
                }
            }
            return start;
        }

        /** How many rounds the held part of the template becomes; 0, with an error, if it does not fit. */
        private int roundsFor(int held) {
            int howMany = -1;
            int end = row.after(held);
            for (int i = held; i < end; i++) {
                int variable = row.variableAt(i);
                if (variable >= 0) {
                    int own = row.itemsFrom(matchOf(variable, rounds.depth));
                    if (howMany >= 0 && howMany != own) {
                        outcome.fail(MATCH_ERROR);
                        return 0;
                    }
                    howMany = own;
                }
            }
            return Math.max(howMany, 0);
        }

        private void fillToken(int i) {
            int variable = row.variableAt(i);
            int from = variable < 0 ? i : matchOf(variable, MOST_HOLDERS);
            int end = variable < 0 ? i + 1 : row.after(from);
            for (int k = from; k < end; k++) {
                filled += isTree(row.wordAt(k)) ? 1 : 0;
                if (filled > MOST_FILLED) {
                    outcome.fail(LIMIT_ERROR);
                    return;
                }
                row.add(row.wordAt(k), row.marksAt(k));
            }
        }

        /**
         * The place of what the pattern's variable matched in the present rounds. Of the .. that hold the
         * variable only so many are gone into: at the next one its first round's place is the answer.
         */
        private int matchOf(int variable, int goneInto) {
            int p = pattern;
            int t = matched;
            int level = 0;
            for (int step = 0; step < MANY; step++) {
                if (row.after(p) <= variable) {
                    p = row.after(p);
                    t = row.after(t);
                    continue;
                }
                if (row.isHeld(p)) {
                    if (level >= goneInto) {
                        break;
                    }
                    int skipped = rounds.roundOf(level);
                    for (int k = 0; k < skipped; k++) {
                        t = row.after(t);
                    }
                    level++;
                }
                if (p >= variable) {
                    break;
                }
                p++;
                t++;
            }
            return t;
        }
    }

    /** The bindings: those that are there at first, those of names with rules of their own, those of an expansion. */
    private static final class Table {
        private static final int UNBOUND = -1;
        private static final int AMBIGUOUS = -2;

        private final int[] name = new int[MOST_BINDINGS];
        private final int[] marks = new int[MOST_BINDINGS];
        private final int[] kind = new int[MOST_BINDINGS];
        /** The number of a variable, or the place of the list that rules stand in. */
        private final int[] value = new int[MOST_BINDINGS];
        private int length;
        private int ownNames;

        Table() {
            for (int i = 0; i < FIRST_NAMES.length && i < MOST_BINDINGS; i++) {
                name[i] = FIRST_NAMES[i];
                kind[i] = Math.min(i, VALUE);
            }
            length = FIRST_NAMES.length;
        }

        void forgetExpansion() {
            length = FIRST_NAMES.length + ownNames;
        }

        /** Whether there was room for one more binding. */
        boolean bind(int newName, int newMarks, int newKind, int newValue) {
            if (length < 0 || length >= MOST_BINDINGS) {
                return false;
            }
            name[length] = newName;
            marks[length] = newMarks;
            kind[length] = newKind;
            value[length] = newValue;
            length++;
            return true;
        }

        /** The slot for the name's own rules; -1 if it may have none. */
        int ownSlot(int newName) {
            int base = FIRST_NAMES.length;
            for (int i = 0; i < base + ownNames && i < MOST_BINDINGS; i++) {
                if (name[i] == newName) {
                    return i < base ? -1 : i - base;
                }
            }
            return ownNames < MOST_OWN ? ownNames : -1;
        }

        void bindOwn(int slot, int newName, int list) {
            if (slot < 0 || slot > ownNames || slot >= MOST_OWN) {
                return;
            }
            ownNames = Math.max(ownNames, slot + 1);
            length = FIRST_NAMES.length + slot;
            bind(newName, 0, RULES, list);
            forgetExpansion();
        }

        /** The place of the binding that a name with this set means; UNBOUND or AMBIGUOUS if there is none. */
        int meaning(int ofName, int ofMarks) {
            int best = UNBOUND;
            int largest = -1;
            for (int i = 0; i < length && i < MOST_BINDINGS; i++) {
                if (name[i] == ofName && (marks[i] & ~ofMarks) == 0 && Integer.bitCount(marks[i]) > largest) {
                    best = i;
                    largest = Integer.bitCount(marks[i]);
                }
            }
            return best < 0 || holdsAllOthers(best, ofMarks) ? best : AMBIGUOUS;
        }

        private boolean holdsAllOthers(int best, int ofMarks) {
            if (best < 0 || best >= MOST_BINDINGS) {
                return false;
            }
            for (int i = 0; i < length && i < MOST_BINDINGS; i++) {
                boolean lies = name[i] == name[best] && (marks[i] & ~ofMarks) == 0;
                if (lies && (marks[i] & ~marks[best]) != 0) {
                    return false;
                }
            }
            return true;
        }

        int kindOf(int binding) {
            return binding >= 0 && binding < MOST_BINDINGS ? kind[binding] : VALUE;
        }

        int valueOf(int binding) {
            return binding >= 0 && binding < MOST_BINDINGS ? value[binding] : 0;
        }
    }

    /** What an expansion has made: a text, or the error that came first; nothing is added behind an error. */
    private static final class Outcome {
        private final int[] text = new int[MOST_MADE];
        private int length;
        private int error;

        void clear() {
            length = 0;
            error = 0;
        }

        void fail(int number) {
            if (error == 0) {
                error = number;
            }
        }

        int charAt(int i) {
            return i >= 0 && i < length && i < MOST_MADE ? text[i] : -1;
        }

        void put(int c) {
            if (error != 0) {
                return;
            }
            if (length < 0 || length >= MOST_MADE) {
                error = LIMIT_ERROR;
                return;
            }
            text[length] = c;
            length++;
        }

        void putName(int name) {
            for (int shift = 16; shift >= 0; shift -= 8) {
                if ((name >> shift) > 255) {
                    put((name >> shift) & 255);
                }
            }
        }

        void putNumber(int number) {
            if (number > 9) {
                put('0' + number / 10);
            }
            put('0' + number % 10);
        }

        void putVariable(int number) {
            put('v');
            putNumber(number);
        }

        private void putWord(int word) {
            if (isName(word)) {
                putName(word);
            } else if (isNumber(word)) {
                putNumber(word);
            } else if (word == DOTS) {
                put('.');
                put('.');
            } else {
                put(word == OPEN ? '(' : word == CLOSE ? ')' : '_');
            }
        }

        void putTree(Row row, int tree) {
            int end = row.after(tree);
            for (int i = tree; i < end; i++) {
                if (i > tree && row.wordAt(i) != CLOSE && row.wordAt(i - 1) != OPEN) {
                    put(' ');
                }
                putWord(row.wordAt(i));
            }
        }
    }

    /** Expands trees; fuel and the limit on brackets keep its recursion under MOST_FUEL + MOST_AROUND + 2 levels. */
    private static final class Expander {
        private final Row row;
        private final RuleCheck check;
        private final Table table;
        private final Outcome outcome;
        private final Filler filler;
        private int scopes;
        private int bindings;
        private int variables;
        private int fuel;

        Expander(Row row, RuleCheck check, Table table, Outcome outcome) {
            this.row = row;
            this.check = check;
            this.table = table;
            this.outcome = outcome;
            this.filler = new Filler(row, outcome);
        }

        void start(int newFuel) {
            scopes = 0;
            bindings = 0;
            variables = 0;
            fuel = newFuel;
            table.forgetExpansion();
        }

        /** Expands a tree that is in so many lists being expanded. */
        void expandTree(int tree, int around) {
            if (outcome.error != 0) {
                return;
            }
            int word = row.wordAt(tree);
            if (word == OPEN) {
                expandList(tree, around);
            } else if (isName(word)) {
                expandName(tree);
            } else if (isNumber(word)) {
                outcome.putNumber(word);
            } else {
                // Only _ and .. are left.
                outcome.fail(FORM_ERROR);
            }
        }

        /** The binding that the name means; -1, with an error, if there is none. */
        private int meaningOf(int name) {
            int binding = table.meaning(row.wordAt(name), row.marksAt(name));
            if (binding < 0) {
                outcome.fail(binding == Table.AMBIGUOUS ? AMBIGUOUS_ERROR : UNBOUND_ERROR);
                return -1;
            }
            return binding;
        }

        private void expandName(int name) {
            int binding = meaningOf(name);
            if (binding < 0) {
                return;
            }
            int kind = table.kindOf(binding);
            if (kind == VALUE) {
                outcome.putName(row.wordAt(name));
            } else if (kind == VARIABLE) {
                outcome.putVariable(table.valueOf(binding));
            } else {
                outcome.fail(FORM_ERROR);
            }
        }

        private void expandList(int list, int around) {
            int first = row.wordAt(list + 1);
            if (around > MOST_AROUND) {
                outcome.fail(LIMIT_ERROR);
                return;
            }
            if (first == CLOSE) {
                outcome.fail(FORM_ERROR);
                return;
            }
            int binding = isName(first) ? meaningOf(list + 1) : Table.UNBOUND;
            if (outcome.error != 0) {
                return;
            }
            switch (table.kindOf(binding)) {
                case FN_FORM:
                    expandFn(list, around);
                    break;
                case IF_FORM:
                    expandIf(list, around);
                    break;
                case Q_FORM:
                    expandQ(list);
                    break;
                case LS_FORM:
                    expandLs(list, around);
                    break;
                case RULES:
                    expandByRules(list, table.valueOf(binding), around);
                    break;
                default:
                    expandEach(list, around);
                    break;
            }
        }

        private void expandEach(int list, int around) {
            int items = row.itemsFrom(list + 1);
            int item = list + 1;
            outcome.put('(');
            for (int k = 0; k < items && outcome.error == 0; k++) {
                if (k > 0) {
                    outcome.put(' ');
                }
                expandTree(item, around + 1);
                item = row.after(item);
            }
            outcome.put(')');
        }

        private boolean areNames(int list) {
            int length = row.plainLength(list);
            for (int k = 0; k < length; k++) {
                if (!isName(row.wordAt(list + 1 + k))) {
                    return false;
                }
            }
            return length >= 0;
        }

        private void expandFn(int list, int around) {
            int names = list + 2;
            int body = row.after(names);
            if (row.plainLength(list) != 3 || !areNames(names)) {
                outcome.fail(FORM_ERROR);
                return;
            }
            int scope = newScope();
            if (scope < 0) {
                return;
            }
            // A new scope is in no set yet, so that turning it gives it.
            row.turnScope(names, scope);
            row.turnScope(body, scope);
            int firstVariable = variables;
            int length = row.itemsFrom(names + 1);
            for (int k = 0; k < length && outcome.error == 0; k++) {
                bindVariable(names + 1, names + 1 + k);
            }
            if (outcome.error != 0) {
                return;
            }
            putVariables(firstVariable, length);
            expandTree(body, around + 1);
            outcome.put(')');
        }

        private void putVariables(int firstVariable, int length) {
            outcome.put('(');
            outcome.putName(FN);
            outcome.put(' ');
            outcome.put('(');
            for (int k = 0; k < length; k++) {
                if (k > 0) {
                    outcome.put(' ');
                }
                outcome.putVariable(firstVariable + k);
            }
            outcome.put(')');
            outcome.put(' ');
        }

        private void bindVariable(int firstName, int name) {
            if (row.findName(firstName, name, name) >= 0) {
                outcome.fail(FORM_ERROR);
                return;
            }
            if (bind(name, VARIABLE, variables)) {
                variables++;
            }
        }

        private void expandIf(int list, int around) {
            if (row.plainLength(list) != 4) {
                outcome.fail(FORM_ERROR);
                return;
            }
            outcome.put('(');
            outcome.putName(IF);
            int part = list + 2;
            for (int k = 0; k < 3; k++) {
                outcome.put(' ');
                expandTree(part, around + 1);
                part = row.after(part);
            }
            outcome.put(')');
        }

        private void expandQ(int list) {
            if (row.plainLength(list) != 2) {
                outcome.fail(FORM_ERROR);
                return;
            }
            outcome.putTree(row, list);
        }

        private void expandLs(int list, int around) {
            int named = list + 2;
            int body = row.after(named);
            if (row.plainLength(list) != 3 || !check.isNameWithRules(named)) {
                outcome.fail(FORM_ERROR);
                return;
            }
            int scope = newScope();
            if (scope < 0) {
                return;
            }
            row.turnScope(named + 1, scope);
            row.turnScope(body, scope);
            if (bind(named + 1, RULES, named)) {
                expandTree(body, around + 1);
            }
        }

        private void expandByRules(int list, int named, int around) {
            if (fuel <= 0) {
                outcome.fail(FUEL_ERROR);
                return;
            }
            fuel--;
            int scope = newScope();
            if (scope < 0) {
                return;
            }
            row.turnScope(list, scope);
            int rule = filler.firstRule(named, list);
            if (rule < 0) {
                outcome.fail(MATCH_ERROR);
                return;
            }
            int filled = filler.fill(rule, list);
            if (outcome.error != 0) {
                return;
            }
            row.turnScope(filled, scope);
            // What the list becomes stands where it was, so it is in no more lists than that.
            expandTree(filled, around);
        }

        /** The number of a new scope; -1, with an error, if there are all already. */
        private int newScope() {
            if (scopes >= MOST_SCOPES) {
                outcome.fail(LIMIT_ERROR);
                return -1;
            }
            scopes++;
            return scopes - 1;
        }

        private boolean bind(int name, int kind, int value) {
            if (!table.bind(row.wordAt(name), row.marksAt(name), kind, value)) {
                outcome.fail(LIMIT_ERROR);
                return false;
            }
            bindings++;
            return true;
        }
    }
}
