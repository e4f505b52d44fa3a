/** Promise 4: error 6, each limit inside, on and beyond its edge, and what else is told there first. */
public final class LimitsTest {
    private static final Checker CHECKER = new Checker();
    private static final String[] MANY_NAMES =
        "a b c d e f g h i j k l m n o p q r s t u v w x y z + * = < aa bb cc".split(" ");

    public static void main(String[] args) {
        scopes();
        lastScopeIsLikeOthers();
        bindings();
        bindingsWithOwnNames();
        bindingsInLs();
        filledTrees();
        filledTreesOfAllKinds();
        mostFilledTrees();
        orderInFilling();
        lengthOfText();
        lengthOfTextOfAllKinds();
        orderInText();
        orderAtEachCharacter();
        listsAround();
        listsAroundOfAllKinds();
        orderOfListsAround();
        CHECKER.end();
    }

    private static String ones(int n) {
        return "1 ".repeat(n).trim();
    }

    private static String namesUpTo(int n) {
        return String.join(" ", java.util.Arrays.asList(MANY_NAMES).subList(0, n));
    }

    private static void scopes() {
        CHECKER.sentence("Error 6: a 31st scope");
        MarkedNames names = CHECKER.with("(s ((_) (ls (m) (ls (m) (ls (m) (ls (m) (ls (m) 1)))))))", "(id ((_ a) a))");
        CHECKER.makes(names, "(+ (s) (s) (s) (s) (s))", "(+ 1 1 1 1 1)");
        CHECKER.counts(names, "30 25 0 3");
        CHECKER.fails(names, "(+ (s) (s) (s) (s) (s) (fn (x x) 1))", -6000);
        CHECKER.counts(names, "30 25 0 3");
        CHECKER.fails(names, "(+ (s) (s) (s) (s) (s) (ls (m) 1))", -6000);
        CHECKER.counts(names, "30 25 0 3");
        CHECKER.fails(names, "(+ (s) (s) (s) (s) (s) (s 1))", -6000);
        CHECKER.counts(names, "30 25 0 2");
        CHECKER.fails(names, "(+ (s) (s) (s) (s) (s) (fn (1) 1))", -3000);
        String[] more = {"(fn()1)", "(ls(m)1)", "(id 1)"};
        String[] made = {" (fn () 1)", " 1", " 1"};
        for (int k = 0; k < more.length; k++) {
            String base = "(+(s)(s)(s)(s)" + (k < 2 ? more[k].repeat(3) : "(ls(m)1)".repeat(3));
            String text = "(+ 1 1 1 1" + made[k].repeat(3);
            CHECKER.makes(names, base + more[k].repeat(2) + ")", text + made[k].repeat(2) + ")");
            CHECKER.same("scopes inside", names.count(0), 29);
            CHECKER.makes(names, base + more[k].repeat(3) + ")", text + made[k].repeat(3) + ")");
            CHECKER.same("scopes on the edge", names.count(0), 30);
            CHECKER.fails(names, base + more[k].repeat(4) + ")", -6000);
            CHECKER.same("scopes beyond", names.count(0), 30);
        }
    }

    private static void lastScopeIsLikeOthers() {
        CHECKER.sentence("Each name in a tree has a SET of SCOPES 0 .. 29");
        MarkedNames names = CHECKER.with("(s ((_) (ls (m) (ls (m) (ls (m) (ls (m) (ls (m) 1)))))))", "(id ((_ a) a))");
        String scopes28 = "(+(s)(s)(s)(s)(fn()1)(fn()1)(fn()1)(fn()1)";
        String made28 = "(+ 1 1 1 1 (fn () 1) (fn () 1) (fn () 1) (fn () 1) ";
        CHECKER.makes(names, scopes28 + "(fn (x) x))", made28 + "(fn (v0) v0))");
        CHECKER.makes(names, scopes28 + "(fn (x) (fn (x) x)))", made28 + "(fn (v0) (fn (v1) v1)))");
        CHECKER.makes(names, scopes28 + "(fn (x) (fn (y) x)))", made28 + "(fn (v0) (fn (v1) v0)))");
        CHECKER.makes(names, scopes28 + "(fn (x) (id x)))", made28 + "(fn (v0) v0))");
        CHECKER.makes(names, scopes28 + "(ls (m ((_ a) (+ a))) (m 1)))", made28 + "(+ 1))");
        CHECKER.fails(names, scopes28 + "((fn (x) (fn (y) y)) y))", -1000);
    }

    private static void bindings() {
        CHECKER.sentence("Error 6: a 41st binding");
        StringBuilder made = new StringBuilder("(fn (v0");
        for (int k = 1; k < 31; k++) {
            made.append(" v").append(k);
        }
        MarkedNames names = new MarkedNames();
        CHECKER.makes(names, "(fn (" + namesUpTo(31) + ") 1)", made + ") 1)");
        CHECKER.counts(names, "1 31 31 8");
        CHECKER.makes(names, "(fn (" + namesUpTo(32) + ") bb)", made + " v31) v31)");
        CHECKER.counts(names, "1 32 32 8");
        CHECKER.fails(names, "(fn (" + namesUpTo(33) + ") 1)", -6000);
        CHECKER.counts(names, "1 32 32 8");
        CHECKER.fails(names, "(fn (" + namesUpTo(32) + " aa) 1)", -3000);
        CHECKER.counts(names, "1 32 32 8");
        CHECKER.fails(names, "(fn (" + namesUpTo(33) + " cc) 1)", -6000);
        CHECKER.makes(names, "(fn (" + namesUpTo(32) + ") (fn () a))", made + " v31) (fn () v0))");
        CHECKER.counts(names, "2 32 32 8");
        CHECKER.fails(names, "(fn (" + namesUpTo(32) + ") (fn (a) a))", -6000);
        CHECKER.counts(names, "2 32 32 8");
    }

    private static void bindingsWithOwnNames() {
        CHECKER.sentence("(those that are there at first and those of the names with rules of their own among them)");
        MarkedNames names = new MarkedNames();
        for (int own = 0; own <= 4; own++) {
            for (int bound = 31; bound <= 33; bound++) {
                Checker.typeText(names, "(fn (" + namesUpTo(bound - own) + ") 1)");
                CHECKER.same(bound - own + " names and " + own + " of its own", names.expand(8) > 0, bound <= 32);
                CHECKER.same("bindings", names.count(1), Math.min(bound, 32) - own);
                CHECKER.same("variables", names.count(2), Math.min(bound, 32) - own);
            }
            if (own < 4) {
                CHECKER.gives(names, "(zz" + "abcd".charAt(own) + ")", own + 1);
                CHECKER.gives(names, "(zza ((_) 1))", own + 1);
            }
        }
    }

    private static void bindingsInLs() {
        CHECKER.sentence("Error 6: a 41st binding");
        MarkedNames names = new MarkedNames();
        for (int bound = 30; bound <= 32; bound++) {
            Checker.typeText(names, "(fn (" + namesUpTo(bound) + ") (ls (k ((_) 5)) (k)))");
            CHECKER.same(bound + " names and ls in fn", names.expand(8) > 0, bound < 32);
            CHECKER.counts(names, "" + (bound < 32 ? 3 : 2) + " " + Math.min(bound + 1, 32) + " " + bound + " " + (bound < 32 ? 7 : 8));
            Checker.typeText(names, "(ls (k) (fn (" + namesUpTo(bound) + ") 1))");
            CHECKER.same(bound + " names in fn in ls", names.expand(8) > 0, bound < 32);
            CHECKER.counts(names, "2 " + Math.min(bound + 1, 32) + " " + Math.min(bound, 31) + " 8");
        }
    }

    private static void filledTrees() {
        CHECKER.sentence("Error 6: a 101st tree when a rule is filled");
        MarkedNames names = new MarkedNames();
        CHECKER.gives(names, "(k ((_ _ _ _) 1))", 1);
        CHECKER.gives(names, "(m ((_ a b) (k a a b)))", 2);
        CHECKER.gives(names, "(r ((_ a ..) (k (a .. a ..) 2 3)))", 3);
        CHECKER.makes(names, "(m (" + ones(44) + ") (" + ones(6) + "))", "1");
        CHECKER.makes(names, "(m (" + ones(44) + ") (" + ones(7) + "))", "1");
        CHECKER.fails(names, "(m (" + ones(44) + ") (" + ones(8) + "))", -6000);
        CHECKER.counts(names, "1 0 0 7");
        CHECKER.makes(names, "(m (1 ..) (" + ones(50) + " ..))", "1");
        CHECKER.makes(names, "(r " + ones(47) + ")", "1");
        CHECKER.fails(names, "(r " + ones(48) + ")", -6000);
    }

    private static void filledTreesOfAllKinds() {
        for (int trees = 99; trees <= 101; trees++) {
            int due = trees <= 100 ? -3000 : -6000;
            CHECKER.sentence("a 101st tree when a rule is filled (each counts when it is come to)");
            CHECKER.fails(CHECKER.with("(m ((_) (" + "_".repeat(trees - 1) + ")))"), "(m)", due);
            CHECKER.fails(CHECKER.with("(m((_)(" + "_".repeat(trees - 2) + "())))"), "(m)", due);
            CHECKER.sentence("trees that a use brings, too");
            CHECKER.fails(CHECKER.with("(m ((_ a) a))"), "(m (" + "_".repeat(trees - 1) + "))", due);
            CHECKER.fails(CHECKER.with("(m ((_ a) (_ a)))"), "(m (" + "_".repeat(trees - 3) + "))", due);
            CHECKER.fails(CHECKER.with("(m ((_ a) (a _)))"), "(m (" + "_".repeat(trees - 3) + "))", due);
            CHECKER.fails(CHECKER.with("(m ((_ a ..) (a ..)))"), "(m" + "_".repeat(trees - 1) + ")", due);
            CHECKER.fails(CHECKER.with("(m ((_ a ..) ((1 a) ..)))"), "(m" + "_".repeat((trees - 1) / 3) + ")", due(trees, 3));
            CHECKER.sentence("a list before what is in it");
            CHECKER.fails(CHECKER.with("(m ((_ a b) (a (b))))"), "(m(" + "_".repeat(trees - 4) + ")())", due);
            CHECKER.fails(CHECKER.with("(m ((_ a) a))"), "(m(" + "_".repeat(trees - 3) + "(_)))", due);
            CHECKER.fails(CHECKER.with("(m ((_ a) a))"), "(m(" + "_".repeat(trees - 3) + "(_ ..)..))", due);
        }
        CHECKER.sentence("a 101st tree when a rule is filled (a filling does not count another's)");
        MarkedNames names = CHECKER.with("(id ((_ a) a))", "(m ((_ a) (id a)))");
        String list = "(" + "_".repeat(97) + ")";
        CHECKER.fails(names, "(m " + list + ")", -3000);
        CHECKER.counts(names, "2 0 0 6");
        CHECKER.makes(names, "((id (q (" + ones(20) + ")))(id (q (" + ones(20) + "))))",
            "((q (" + ones(20) + ")) (q (" + ones(20) + ")))");
    }

    /** Eight fillings of nearly 100 trees, most of them brackets with .. behind them; the last tree of all is asked for. */
    private static void mostFilledTrees() {
        CHECKER.sentence("Error 6: a 101st tree when a rule is filled (not before)");
        MarkedNames names = CHECKER.with("(p ((_ a) (m 6 (a a a a 7))))",
            "(m((_ 6 a)(m 5 a))((_ 5 a)(m 4 a))((_ 4 a)(m 3 a))((_ 3 a)(m 2 a))((_ 2 a)(m 1 a))((_ 1 (_ _ _ _ a)) a))");
        CHECKER.makes(names, "(p (" + "()..".repeat(22) + "))", "7");
        CHECKER.counts(names, "7 0 0 1");
        CHECKER.gives(names, "(r ((_ a) (p a)))", 3);
        CHECKER.makes(names, "(r (" + "()..".repeat(22) + "))", "7");
        CHECKER.counts(names, "8 0 0 0");
        CHECKER.fails(names, "(r (" + "()..".repeat(23) + "))", -6000);
    }

    /** The answer for 1 + n trees, n being what is below trees and can be had by steps of so many. */
    private static int due(int trees, int step) {
        return 1 + (trees - 1) / step * step <= 100 ? -3000 : -6000;
    }

    private static void orderInFilling() {
        CHECKER.sentence("What comes first is told: a 101st tree, or that it does not fit");
        MarkedNames names = new MarkedNames();
        CHECKER.gives(names, "(a ((_ (a ..) (b ..)) (q (a .. a .. (a b) ..))))", 1);
        CHECKER.gives(names, "(b ((_ (a ..) (b ..)) (q ((a b) .. a .. a ..))))", 2);
        CHECKER.gives(names, "(c ((_ (a ..) (b ..)) (a .. (a b) ..)))", 3);
        CHECKER.fails(names, "(a (" + ones(50) + ") ())", -6000);
        CHECKER.fails(names, "(b (" + ones(50) + ") ())", -4000);
        CHECKER.fails(names, "(a (1) ())", -4000);
        CHECKER.fails(names, "(c(" + "_".repeat(98) + ")())", -4000);
        CHECKER.fails(names, "(c(" + "_".repeat(99) + ")())", -4000);
        CHECKER.fails(names, "(c(" + "_".repeat(100) + ")())", -6000);
    }

    private static void lengthOfText() {
        CHECKER.sentence("Error 6: a text longer than 200");
        MarkedNames names = new MarkedNames();
        CHECKER.gives(names, "(m ((_ a) (q (a a 10))))", 1);
        CHECKER.gives(names, "(k ((_ a) (q (a a))))", 2);
        String list95 = listOf(95);
        CHECKER.makes(names, "(m " + list95 + ")", "(q (" + list95 + " " + list95 + " 10))");
        CHECKER.same("expanded text's length", Checker.made(names).length(), 200);
        CHECKER.same("at(199)", names.at(199), (int) ')');
        CHECKER.same("at(200)", names.at(200), -1);
        CHECKER.fails(names, "(k " + listOf(97) + ")", -6000);
        CHECKER.makes(names, "(k " + list95 + ")", "(q (" + list95 + " " + list95 + "))");
    }

    /** A list of numbers whose text has so many characters (4 or more), with as few trees as can be. */
    private static String listOf(int length) {
        int inside = length - 1;
        int small = inside % 3 == 0 ? 0 : inside % 3 == 2 ? 1 : 2;
        String text = "(" + ("10 ".repeat((inside - 2 * small) / 3) + ones(small)).trim() + ")";
        CHECKER.same("the list's length", text.length(), length);
        return text;
    }

    private static final String FOUR_TIMES = "(m ((_ a b ..) (a a a a b ..)))";

    /** A program for an object with the rules above that has made so many characters when it comes to the tail. */
    private static String behind(int made, String tail) {
        String[] between = {" ", " 1 10 ", " 1 ", " 10 "};
        int[] lengths = {5, 10, 7, 8};
        for (int k = 0; k < between.length; k++) {
            if ((made - lengths[k]) % 4 == 0) {
                return "(m " + listOf((made - lengths[k]) / 4) + between[k] + tail + ")";
            }
        }
        return "";
    }

    private static void lengthOfTextOfAllKinds() {
        CHECKER.sentence("Error 6: a text longer than 200");
        String[] tails = {"1", "11", "+", "(1)", "(* 2)", "(fn () 1)", "(fn (x) x)", "(fn (x y) (x y))", "(if 1 (2) 33)", "(q x)",
            "(q (abc .. _ 10))", "(q ())", "(ls (k) 1)", "(ls (k ((_ a) (a a))) (k 1))", "1 22 (3)"};
        String[] made = {"1", "11", "+", "(1)", "(* 2)", "(fn () 1)", "(fn (v0) v0)", "(fn (v0 v1) (v0 v1))", "(if 1 (2) 33)", "(q x)",
            "(q (abc .. _ 10))", "(q ())", "1", "(1 1)", "1 22 (3)"};
        for (int k = 0; k < tails.length; k++) {
            for (int length = 198; length <= 202; length++) {
                MarkedNames names = CHECKER.with(FOUR_TIMES);
                Checker.typeText(names, behind(length - 1 - made[k].length(), tails[k]));
                CHECKER.same(tails[k] + " at the end of " + length, names.expand(8), length <= 200 ? length : -6000);
                if (length <= 200) {
                    String text = Checker.made(names);
                    CHECKER.same("the text's end", text.substring(length - 1 - made[k].length()), made[k] + ")");
                } else {
                    CHECKER.same("at(0)", names.at(0), -1);
                }
            }
        }
    }

    /** What would be wrong behind the 200th character is told as error 6 where the text grows first. */
    private static void orderInText() {
        MarkedNames names = new MarkedNames();
        CHECKER.gives(names, "(m ((_ a b ..) (a a b ..)))", 1);
        // (L L made of L with 98 characters: 1 + 98 + 1 + 98 = 198 characters, then a space.
        String list = listOf(98);
        CHECKER.makes(names, "(m " + list + ")", "(" + list + " " + list + ")");
        CHECKER.fails(names, "(m " + list + " 1)", -6000);
        CHECKER.fails(names, "(m " + list + " x)", -1000);
        CHECKER.fails(names, "(m " + list + " ())", -3000);
        CHECKER.fails(names, "(m " + list + " (x))", -1000);
        CHECKER.fails(names, "(m " + list + " (1 x))", -6000);
        CHECKER.fails(names, "(m " + list + " 1 x)", -6000);
        CHECKER.fails(names, "(m " + list + " (fn (x x) 1))", -3000);
        CHECKER.fails(names, "(m " + list + " (fn (x y) 1))", -6000);
        CHECKER.same("fn binds its names before it makes its text", Checker.counts(names), "2 2 2 7");
        CHECKER.fails(names, "(m " + list + " (ls (m) x))", -1000);
    }

    private static void orderAtEachCharacter() {
        CHECKER.sentence("Single spaces stand between what stands in a bracket, made before what comes behind them is looked at.");
        String[] tails = {"x", "_", "()", "(x)", "((x))", "(1 x)", "(1 ..)", "(1 _)", "(+ 1 x)", "(if 1 1)", "(if x 1 1)", "(if 1 x 1)",
            "(if 1 1 x)", "(fn (y) x)", "(fn () x)", "(fn (y y) 1)", "(fn (1) 1)", "(q)", "(ls (k) x)", "(ls (k) (k))",
            "(ls (k 1) 1)", "(ls (k ((_) (1 x))) (k))", "(1 (2 x))"};
        String[] made = {"", "", "", "", "(", "(1 ", "(1 ", "(1 ", "(+ 1 ", "", "(if ", "(if 1 ",
            "(if 1 1 ", "(fn (v0) ", "(fn () ", "", "", "", "", "",
            "", "(1 ", "(1 (2 "};
        int[] errors = {1, 3, 3, 1, 1, 1, 3, 3, 1, 3, 1, 1, 1, 1, 1, 3, 3, 3, 1, 4, 3, 1, 1};
        for (int k = 0; k < tails.length; k++) {
            for (int length = 198; length <= 202; length++) {
                MarkedNames names = CHECKER.with(FOUR_TIMES);
                String text = behind(length - made[k].length(), tails[k]);
                CHECKER.fails(names, text, -1000 * (length <= 200 ? errors[k] : 6));
            }
        }
    }

    private static void listsAround() {
        MarkedNames names = new MarkedNames();
        CHECKER.gives(names, "(w ((_ a) ((((a))))))", 1);
        CHECKER.gives(names, "(id ((_ a) a))", 2);
        CHECKER.makes(names, inFive("(w (1))"), inNine("(1)"));
        CHECKER.fails(names, inFive("(w ((1)))"), -6000);
        CHECKER.fails(names, inFive("(w ((x)))"), -6000);
        CHECKER.fails(names, inFive("(w ((_)))"), -6000);
        CHECKER.fails(names, inFive("(w (x))"), -1000);
        CHECKER.fails(names, inFive("(w (()))"), -6000);
        CHECKER.fails(names, inFive("(w ())"), -3000);
        CHECKER.fails(names, inFive("(w ((id 1)))"), -6000);
        CHECKER.same("its fuel", names.count(3), 7);
        CHECKER.makes(names, inFive("(w (id 1))"), inNine("1"));
        CHECKER.makes(names, inFive("(w (id (1)))"), inNine("(1)"));
        CHECKER.makes(names, inFive("(w (q ()))"), inNine("(q ())"));
        CHECKER.makes(names, inFive("(w (if 1 2 3))"), inNine("(if 1 2 3)"));
        CHECKER.fails(names, inFive("(w (if 1 2 (3)))"), -6000);
        CHECKER.makes(names, inFive("(w (fn () 3))"), inNine("(fn () 3)"));
        CHECKER.fails(names, inFive("(w (fn () (3)))"), -6000);
        CHECKER.makes(names, inFive("(w (ls (m) 3))"), inNine("3"));
        CHECKER.fails(names, inFive("(w (ls (m) (3)))"), -6000);
    }

    private static MarkedNames withWraps() {
        return CHECKER.with("(w ((_ a) ((((a))))))", "(id ((_ a) a))", "(v ((_ a) (((((a)))))))");
    }

    /** A program for an object with the rules above in which the tree is in so many lists. */
    private static String inLists(int around, String tree) {
        return "(".repeat(around - 5) + "(v " + tree + ")" + ")".repeat(around - 5);
    }

    private static String wrapped(int around, String text) {
        return "(".repeat(around) + text + ")".repeat(around);
    }

    private static void listsAroundOfAllKinds() {
        CHECKER.sentence("Error 6: a list in more than 9 others being expanded");
        String[] flat = {"(1)", "(+)", "(q 1)", "(fn () 1)", "(if 1 1 1)", "(ls (k) 1)", "(id 1)", "1", "+"};
        String[] made = {"(1)", "(+)", "(q 1)", "(fn () 1)", "(if 1 1 1)", "1", "1", "1", "+"};
        for (int k = 0; k < flat.length; k++) {
            for (int around = 7; around <= 9; around++) {
                CHECKER.makes(withWraps(), inLists(around, flat[k]), wrapped(around, made[k]));
            }
            if (k < 7) {
                CHECKER.fails(withWraps(), inLists(10, flat[k]), -6000);
            }
        }
        CHECKER.makes(withWraps(), wrapped(5, "(w (1 + 2))"), wrapped(9, "(1 + 2)"));
        String[] deep = {"((2))", "(1 (2))", "(if (2) 1 1)", "(if 1 (2) 1)", "(if 1 1 (2))", "(fn () (2))", "(ls (k) (2))"};
        String[] deepMade = {"((2))", "(1 (2))", "(if (2) 1 1)", "(if 1 (2) 1)", "(if 1 1 (2))", "(fn () (2))", "(2)"};
        for (int k = 0; k < deep.length; k++) {
            CHECKER.makes(withWraps(), inLists(7, deep[k]), wrapped(7, deepMade[k]));
            CHECKER.makes(withWraps(), inLists(8, deep[k]), wrapped(8, deepMade[k]));
            CHECKER.fails(withWraps(), inLists(9, deep[k]), -6000);
        }
        CHECKER.makes(withWraps(), inLists(9, "(q ((1)))"), wrapped(9, "(q ((1)))"));
        CHECKER.sentence("what a use becomes is where the use was");
        CHECKER.makes(withWraps(), inLists(9, "(id (2))"), wrapped(9, "(2)"));
        CHECKER.makes(withWraps(), wrapped(5, "(w 1)"), wrapped(9, "1"));
        CHECKER.makes(withWraps(), wrapped(6, "(w 1)"), wrapped(10, "1"));
        CHECKER.fails(withWraps(), wrapped(7, "(w 1)"), -6000);
        CHECKER.makes(withWraps(), wrapped(5, "(w (2))"), wrapped(9, "(2)"));
        CHECKER.fails(withWraps(), wrapped(6, "(w (2))"), -6000);
        CHECKER.makes(withWraps(), "(v (w 1))", wrapped(9, "1"));
        CHECKER.makes(withWraps(), "(v (v 1))", wrapped(10, "1"));
        CHECKER.fails(withWraps(), "(v (v (1)))", -6000);
    }

    private static void orderOfListsAround() {
        CHECKER.sentence("a list in more than 9 others being expanded (looked at before its first tree's meaning)");
        String[] lists = {"(x)", "(fn)", "(id)", "(_)", "(1 ..)", "(ls 1 2)", "()"};
        int[] errors = {-1000, -3000, -4000, -3000, -3000, -3000, -3000};
        for (int k = 0; k < lists.length; k++) {
            MarkedNames names = withWraps();
            CHECKER.fails(names, inLists(8, lists[k]), errors[k]);
            CHECKER.fails(names, inLists(9, lists[k]), errors[k]);
            CHECKER.fails(names, inLists(10, lists[k]), -6000);
            CHECKER.counts(names, "1 0 0 7");
        }
        CHECKER.fails(withWraps(), inLists(10, "x"), -1000);
        CHECKER.fails(withWraps(), inLists(10, "_"), -3000);
        CHECKER.fails(withWraps(), inLists(9, "(x (1))"), -1000);
        CHECKER.fails(withWraps(), inLists(9, "(1 x (1))"), -1000);
        CHECKER.fails(withWraps(), inLists(9, "(1 (1) x)"), -6000);
    }

    private static String inFive(String text) {
        return "(".repeat(5) + text + ")".repeat(5);
    }

    private static String inNine(String text) {
        return "(".repeat(9) + text + ")".repeat(9);
    }
}
