/** The edges of the calls themselves (promises 1 to 6): their arguments, and what a refused call leaves as it was. */
public final class CallEdgesTest {
    private static final Checker CHECKER = new Checker();
    private static final int[] FAR = {Integer.MIN_VALUE, Integer.MIN_VALUE + 1, -1000, 1000, Integer.MAX_VALUE};

    public static void main(String[] args) {
        nothingAtFirst();
        howManyBytes();
        lowestBytes();
        characters();
        oneHundredTwenty();
        refusedTyping();
        fuel();
        refusedExpanding();
        fourNames();
        namesThatAreThereAtFirst();
        nothingIsTypedThen();
        charactersOfTheText();
        whatIsCounted();
        countsOfNoExpansion();
        fiveHundredTwelveCalls();
        CHECKER.end();
    }

    private static void nothingAtFirst() {
        CHECKER.sentence("No rules of its own; nothing is typed or made.");
        CHECKER.same("expand(0)", new MarkedNames().expand(0), -1);
        CHECKER.same("rules()", new MarkedNames().rules(), -1);
        CHECKER.same("at(0)", new MarkedNames().at(0), -1);
        CHECKER.gives(new MarkedNames(), "(m)", 1);
        CHECKER.same("typing 120", Checker.typeText(new MarkedNames(), " ".repeat(120)), true);
        CHECKER.same("typing 121", Checker.typeText(new MarkedNames(), " ".repeat(121)), false);
    }

    private static void howManyBytes() {
        CHECKER.sentence("false, refused, if n is not 1 .. 4");
        for (int n = -3; n <= 8; n++) {
            MarkedNames names = new MarkedNames();
            boolean due = n >= 1 && n <= 4;
            CHECKER.same("type(.., " + n + ")", names.type(0x20202031, n), due);
            CHECKER.same("rules() then", names.rules(), due ? -1000 : -1);
        }
        for (int n : FAR) {
            CHECKER.same("type(.., " + n + ")", new MarkedNames().type(0x31313131, n), false);
        }
    }

    private static void lowestBytes() {
        CHECKER.sentence("Appends the n lowest bytes of word, the highest of them first");
        int word = '1' << 24 | ' ' << 16 | '2' << 8 | '3';
        String[] due = {"", "(q (3))", "(q (23))", "(q (23))", "(q (1 23))"};
        for (int n = 1; n <= 4; n++) {
            MarkedNames names = new MarkedNames();
            Checker.typeText(names, "(q (");
            CHECKER.same("type(.., " + n + ")", names.type(word, n), true);
            Checker.typeText(names, "))");
            CHECKER.same("expand(8)", names.expand(8), due[n].length());
            CHECKER.same("the text", Checker.made(names), due[n]);
        }
        for (int high : new int[] {0, 31, 127, 255}) {
            CHECKER.same("a byte above three", new MarkedNames().type(high << 24 | 0x313131, 3), true);
            CHECKER.same("a byte above two", new MarkedNames().type(high << 16 | 0x3131, 2), true);
            CHECKER.same("a byte above one", new MarkedNames().type(high << 8 | 0x31, 1), true);
        }
    }

    private static void characters() {
        CHECKER.sentence("false, refused, if one of them is not 32 .. 126");
        for (int c = 0; c < 256; c++) {
            boolean due = c >= 32 && c <= 126;
            for (int n = 1; n <= 4; n++) {
                for (int k = 0; k < n; k++) {
                    int word = 0x31313131 & ~(255 << 8 * k) | c << 8 * k;
                    CHECKER.same("type(" + word + ", " + n + ")", new MarkedNames().type(word, n), due);
                }
            }
        }
    }

    private static void oneHundredTwenty() {
        CHECKER.sentence("false, refused, if more than 120 would be there");
        for (int there = 114; there <= 120; there++) {
            for (int n = 1; n <= 4; n++) {
                MarkedNames names = new MarkedNames();
                CHECKER.same("typing " + there, Checker.typeText(names, " ".repeat(there)), true);
                boolean due = there + n <= 120;
                CHECKER.same(n + " behind " + there, names.type(0x20202020, n), due);
                CHECKER.same("expand(8), faulty at its end", names.expand(8), -1 - (due ? there + n : there));
            }
        }
        MarkedNames full = new MarkedNames();
        CHECKER.same("typing 120", Checker.typeText(full, "1" + " ".repeat(119)), true);
        for (int n = 1; n <= 4; n++) {
            CHECKER.same(n + " behind 120", full.type(0x31313131, n), false);
        }
        CHECKER.same("expand(8)", full.expand(8), 1);
        CHECKER.same("typing 120 anew", Checker.typeText(full, "2" + " ".repeat(119)), true);
        CHECKER.same("expand(8)", full.expand(8), 1);
    }

    private static void refusedTyping() {
        CHECKER.sentence("A call that is refused changes nothing. (type)");
        MarkedNames names = CHECKER.with("(m ((_) 5))");
        CHECKER.makes(names, "(fn (a) (m))", "(fn (v0) 5)");
        Checker.typeText(names, "(m");
        int close = ')' << 24 | ')' << 16 | ')' << 8 | ')';
        for (int n : new int[] {0, 5, -1, 8, Integer.MIN_VALUE, Integer.MAX_VALUE}) {
            CHECKER.same("type of ), " + n, names.type(close, n), false);
        }
        CHECKER.same("a wrong byte first", names.type(0x1F292929, 4), false);
        CHECKER.same("a wrong byte last", names.type(0x2929297F, 4), false);
        CHECKER.same("the text made before", Checker.made(names), "(fn (v0) 5)");
        CHECKER.counts(names, "2 1 1 7");
        CHECKER.same("type of )", names.type(')', 1), true);
        CHECKER.same("expand(1)", names.expand(1), 1);
        CHECKER.same("typing 119", Checker.typeText(names, "(m" + " ".repeat(117)), true);
        CHECKER.same("two more", names.type(0x2929, 2), false);
        CHECKER.same("one more", names.type(')', 1), true);
        CHECKER.same("expand(1)", names.expand(1), 1);
        CHECKER.same("its text", Checker.made(names), "5");
    }

    private static void fuel() {
        CHECKER.sentence("-7000, refused, if fuel is not 0 .. 8");
        for (int fuel = -2; fuel <= 10; fuel++) {
            MarkedNames names = new MarkedNames();
            Checker.typeText(names, "42");
            boolean due = fuel >= 0 && fuel <= 8;
            CHECKER.same("expand(" + fuel + ")", names.expand(fuel), due ? 2 : -7000);
            CHECKER.counts(names, due ? "0 0 0 " + fuel : "0 0 0 0");
        }
        for (int fuel : FAR) {
            CHECKER.same("expand(" + fuel + "), nothing typed", new MarkedNames().expand(fuel), -7000);
        }
        CHECKER.sentence("one piece of FUEL is spent (error 5, if there is none)");
        MarkedNames names = CHECKER.with("(m ((_ a) a))");
        for (int fuel = 0; fuel <= 8; fuel++) {
            for (int uses = Math.max(0, fuel - 1); uses <= fuel + 1; uses++) {
                Checker.typeText(names, "(" + "+ (m 1)".repeat(uses) + "+)");
                CHECKER.same(uses + " uses, expand(" + fuel + ")", names.expand(fuel) >= 0, uses <= fuel);
                CHECKER.same("the fuel left", names.count(3), Math.max(0, fuel - uses));
                CHECKER.same("the scopes", names.count(0), Math.min(fuel, uses));
            }
            Checker.typeText(names, "(+ (m 1) (m 1) (m 1) (m 1) (m 1) (m 1) (m 1) (m 1) (m 1))");
            CHECKER.same("9 uses, expand(" + fuel + ")", names.expand(fuel), -5000);
        }
    }

    private static void refusedExpanding() {
        CHECKER.sentence("A call that is refused changes nothing. (expand)");
        MarkedNames names = CHECKER.with("(m ((_) 5))");
        CHECKER.makes(names, "(fn (a) (m))", "(fn (v0) 5)");
        for (String typed : new String[] {"(+ (m) 1)", "", "(m", "x"}) {
            Checker.typeText(names, typed);
            for (int fuel : new int[] {-1, 9, Integer.MIN_VALUE, Integer.MAX_VALUE}) {
                CHECKER.same("expand(" + fuel + ")", names.expand(fuel), -7000);
                CHECKER.same("the text made before", Checker.made(names), "(fn (v0) 5)");
                CHECKER.counts(names, "2 1 1 7");
            }
            int due = typed.startsWith("(+") ? 7 : typed.equals("x") ? -1000 : -1 - typed.length();
            CHECKER.same("expand(1) of what was typed", names.expand(1), due);
            CHECKER.makes(names, "(fn (a) (m))", "(fn (v0) 5)");
        }
    }

    private static void fourNames() {
        CHECKER.sentence("-1001 if there are 4 such names and this is none of them");
        MarkedNames names = new MarkedNames();
        CHECKER.gives(names, "(a ((_) 1))", 1);
        CHECKER.gives(names, "(b ((_) 2))", 2);
        CHECKER.gives(names, "(c ((_) 3))", 3);
        CHECKER.gives(names, "(b ((_) 4))", 3);
        CHECKER.gives(names, "(d ((_) 5))", 4);
        CHECKER.gives(names, "(e ((_) 6))", -1001);
        CHECKER.gives(names, "(aa ((_) 6))", -1001);
        CHECKER.fails(names, "(e)", -1000);
        CHECKER.makes(names, "(+ (a) (b) (c) (d))", "(+ 1 4 3 5)");
        CHECKER.gives(names, "(a)", 4);
        CHECKER.gives(names, "(d ((_) 7))", 4);
        CHECKER.fails(names, "(a)", -4000);
        CHECKER.makes(names, "(+ (b) (c) (d))", "(+ 4 3 7)");
        CHECKER.gives(names, "(e)", -1001);
        CHECKER.gives(names, "(a ((_) 8))", 4);
        CHECKER.makes(names, "(a)", "8");
        CHECKER.sentence("-1000 if it is no such list, or the rules are not as told");
        CHECKER.gives(names, "(e 1)", -1000);
        CHECKER.gives(names, "(a 1)", -1000);
        CHECKER.makes(names, "(a)", "8");
        CHECKER.gives(names, "(a ((_) 9)", -11);
        CHECKER.makes(names, "(a)", "8");
    }

    private static void namesThatAreThereAtFirst() {
        CHECKER.sentence("-1001 if it is fn, if, q, ls, + * = <");
        for (String first : new String[] {"fn", "if", "q", "ls", "+", "*", "=", "<"}) {
            MarkedNames names = new MarkedNames();
            CHECKER.gives(names, "(" + first + ")", -1001);
            CHECKER.gives(names, "(" + first + " ((_) 1))", -1001);
            CHECKER.gives(names, "(" + first + " 1)", -1000);
            CHECKER.gives(names, "(m)", 1);
            CHECKER.makes(names, "(fn () (if (q 1) + (ls (m) (* = <))))", "(fn () (if (q 1) + (* = <)))");
        }
        int given = 0;
        MarkedNames names = new MarkedNames();
        for (String near : new String[] {"f", "n", "i", "l"}) {
            given++;
            CHECKER.gives(names, "(" + near + " ((_) " + given + "))", given);
        }
        CHECKER.makes(names, "(+ (f) (n) (i) (l))", "(+ 1 2 3 4)");
        CHECKER.gives(CHECKER.with("(fnn)", "(ifn)", "(qq)"), "(lss)", 4);
        CHECKER.gives(CHECKER.with("(nf)", "(fi)", "(sl)"), "(ffn)", 4);
    }

    private static void nothingIsTypedThen() {
        CHECKER.sentence("nothing is typed then");
        for (String text : new String[] {"(m)", "(m ((_) 1))", "(m 1)", "(q)", "7", "(m", "abcd", ""}) {
            MarkedNames names = new MarkedNames();
            Checker.typeText(names, text);
            names.rules();
            CHECKER.same("rules() once more behind " + text, names.rules(), -1);
            CHECKER.same("typing 120", Checker.typeText(names, " ".repeat(120)), true);
        }
        for (String text : new String[] {"1", "x", "()", "(1", "abcd", ""}) {
            MarkedNames names = new MarkedNames();
            Checker.typeText(names, text);
            names.expand(0);
            CHECKER.same("expand(0) once more behind " + text, names.expand(0), -1);
            CHECKER.same("typing 120", Checker.typeText(names, " ".repeat(120)), true);
        }
    }

    private static void charactersOfTheText() {
        CHECKER.sentence("Character i of the text that was made; -1 if there is none.");
        MarkedNames names = new MarkedNames();
        CHECKER.makes(names, "(+ 12)", "(+ 12)");
        int[] due = {-1, '(', '+', ' ', '1', '2', ')', -1};
        for (int i = -1; i <= 6; i++) {
            CHECKER.same("at(" + i + ")", names.at(i), due[i + 1]);
        }
        for (int i : FAR) {
            CHECKER.same("at(" + i + ")", names.at(i), -1);
        }
        MarkedNames longest = CHECKER.with("(m ((_ a) (q (a a a a))))");
        String list = "(" + "10 ".repeat(14) + "1 1)";
        CHECKER.makes(longest, "(m " + list + ")", "(q (" + (list + " ").repeat(4).trim() + "))");
        CHECKER.same("at(196)", longest.at(196), (int) ')');
        CHECKER.same("at(197)", longest.at(197), -1);
        CHECKER.sentence("then no text is made");
        for (String text : new String[] {"(+ x)", "(+ 1 ..)", "(+", ""}) {
            CHECKER.makes(names, "(+ 12)", "(+ 12)");
            Checker.typeText(names, text);
            CHECKER.same("expand(8) of " + text, names.expand(8) < 0, true);
            for (int i = -1; i <= 6; i++) {
                CHECKER.same("at(" + i + ")", names.at(i), -1);
            }
        }
    }

    private static void whatIsCounted() {
        CHECKER.sentence("-1 for another what");
        MarkedNames names = new MarkedNames();
        CHECKER.makes(names, "(fn (a b) (ls (m) (fn () 1)))", "(fn (v0 v1) (fn () 1))");
        int[] due = {-1, 3, 3, 2, 8, -1};
        for (int what = -1; what <= 4; what++) {
            CHECKER.same("count(" + what + ")", names.count(what), due[what + 1]);
        }
        for (int what : FAR) {
            CHECKER.same("count(" + what + ")", names.count(what), -1);
        }
    }

    private static void countsOfNoExpansion() {
        CHECKER.sentence("0 if there was none, or its text was faulty");
        MarkedNames names = new MarkedNames();
        CHECKER.counts(names, "0 0 0 0");
        CHECKER.gives(names, "(m ((_) 1))", 1);
        Checker.typeText(names, "(fn (a) (m))");
        CHECKER.counts(names, "0 0 0 0");
        CHECKER.same("expand(9)", names.expand(9), -7000);
        CHECKER.counts(names, "0 0 0 0");
        CHECKER.same("expand(8)", names.expand(8), 11);
        CHECKER.counts(names, "2 1 1 7");
        CHECKER.fails(names, "(fn (a) (m)", -12);
        CHECKER.counts(names, "0 0 0 0");
        CHECKER.fails(names, "(fn (a) (m x))", -4000);
        CHECKER.counts(names, "2 1 1 7");
        CHECKER.fails(names, "", -1);
        CHECKER.counts(names, "0 0 0 0");
    }

    private static void fiveHundredTwelveCalls() {
        CHECKER.sentence("An object is used for at most 512 calls after it has been made");
        MarkedNames names = new MarkedNames();
        for (int call = 1; call <= 508; call += 4) {
            names.type('(' << 24 | 'm' << 16 | ' ' << 8 | '(', 4);
            names.type('(' << 24 | '_' << 16 | ')' << 8 | '1', 4);
            names.type(')' << 8 | ')', 2);
            CHECKER.same("rules(), call " + (call + 3), names.rules(), 1);
        }
        names.type('(' << 16 | 'm' << 8 | ')', 3);
        CHECKER.same("expand(1), call 510", names.expand(1), 1);
        CHECKER.same("at(0), call 511", names.at(0), (int) '1');
        CHECKER.same("count(0), call 512", names.count(0), 1);
        MarkedNames other = new MarkedNames();
        int[] words = {'(' << 24 | 'f' << 16 | 'n' << 8 | '(', 'a' << 24 | ')' << 16 | 'a' << 8 | ')'};
        for (int call = 1; call <= 511; call += 3) {
            other.type(words[0], 4);
            other.type(words[1], 4);
            CHECKER.same("expand(8), call " + (call + 2), other.expand(8), 12);
        }
    }
}
