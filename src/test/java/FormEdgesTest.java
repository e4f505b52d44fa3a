/** The edges of what names mean, of the core forms and of the order of errors (promise 4). */
public final class FormEdgesTest {
    private static final Checker CHECKER = new Checker();

    public static void main(String[] args) {
        bindingsAtFirst();
        setsThatLieInItsOwn();
        ambiguous();
        blankAndEmptyList();
        lengthsOfForms();
        dotsInForms();
        namesOfFn();
        namesAlike();
        variablesNumbered();
        quoted();
        scopesOfLs();
        scopesTurned();
        meaningBeforeAnythingElse();
        otherLists();
        fromTheLeft();
        CHECKER.end();
    }

    private static void bindingsAtFirst() {
        CHECKER.sentence("at first, with the empty set: fn, if, q, ls: CORE forms; + * = <: themselves, VALUES");
        for (String core : new String[] {"fn", "if", "q", "ls"}) {
            CHECKER.fails(core, -3000);
            CHECKER.fails("(" + core + ")", -3000);
            CHECKER.fails("(+ " + core + ")", -3000);
        }
        for (String value : new String[] {"+", "*", "=", "<"}) {
            CHECKER.makes(value, value);
            CHECKER.makes("(" + value + ")", "(" + value + ")");
        }
        for (String near : new String[] {"f", "n", "nf", "fnn", "i", "fi", "ifs", "p", "r", "qq", "l", "s", "sl", "lss", "v", "a"}) {
            CHECKER.fails(near, -1000);
            CHECKER.fails("(" + near + ")", -1000);
        }
        CHECKER.sentence("else error 3");
        CHECKER.fails(CHECKER.with("(m ((_) 1))"), "m", -3000);
        CHECKER.fails("(ls (m ((_) 1)) m)", -3000);
        CHECKER.fails("(ls (m ((_) 1)) (+ m))", -3000);
    }

    private static void setsThatLieInItsOwn() {
        CHECKER.sentence("MEANS the binding of this name whose set lies in its own and has all others in it");
        CHECKER.makes("(fn (x) x)", "(fn (v0) v0)");
        CHECKER.fails("((fn (x) x) x)", -1000);
        CHECKER.fails("((ls (m ((_) 1)) (m)) (m))", -1000);
        CHECKER.makes("(fn (x) (fn (x) (fn (y) x)))", "(fn (v0) (fn (v1) (fn (v2) v1)))");
        CHECKER.makes("(fn (x) ((fn (x) x) x))", "(fn (v0) ((fn (v1) v1) v0))");
        CHECKER.makes("(fn (+) (+ *))", "(fn (v0) (v0 *))");
        CHECKER.makes("((fn (+) +) +)", "((fn (v0) v0) +)");
        CHECKER.makes("(fn (if) (if 1 2))", "(fn (v0) (v0 1 2))");
        CHECKER.makes(CHECKER.with("(m ((_) 1))"), "((fn (m) (m)) (m))", "((fn (v0) (v0)) 1)");
        CHECKER.makes(CHECKER.with("(m ((_) 1))"), "((ls (m ((_) 2)) (m)) (m))", "(2 1)");
    }

    private static void ambiguous() {
        CHECKER.sentence("if there is such a one at all but none that has all the others in it, it is AMBIGUOUS");
        for (String e : new String[] {"x", "(x)", "(1 x)", "(if x 1 1)", "(x fn)", "(1 x fn)"}) {
            CHECKER.fails(twice(e), "(k x)", -2000);
        }
        CHECKER.makes(twice("x"), "(k y)", "(fn (v0) (fn (v1) v0))");
        CHECKER.makes(twice("a"), "(k x)", "(fn (v0) (fn (v1) v1))");
        CHECKER.makes(twice("(q x)"), "(k x)", "(fn (v0) (fn (v1) (q x)))");
        CHECKER.fails(twice("(1 fn x)"), "(k x)", -3000);
        CHECKER.fails(twice("(1 z x)"), "(k x)", -1000);
        CHECKER.makes(twice("(g x)", "(g ((_ b) (fn (b) b)))"), "(k x)", "(fn (v0) (fn (v1) (fn (v2) v2)))");
        CHECKER.fails(twice("(g x)", "(g ((_ b) ((fn (b) b) b)))"), "(k x)", -2000);
        CHECKER.fails(twice("(g x)", "(g ((_ b) (fn (y) b)))"), "(k x)", -2000);
        CHECKER.fails(twice("(g x)", "(g ((_ b) (b (1 2))))"), "(k x)", -2000);
    }

    /** For (k x): two fn bind x with sets of which neither has the other in it, and e's x has both. */
    private static MarkedNames twice(String e, String... more) {
        MarkedNames names = CHECKER.with("(k ((_ a) (fn (x) (ls (m ((_) (fn (a) " + e + "))) (m)))))");
        for (String rules : more) {
            CHECKER.gives(names, rules, 2);
        }
        return names;
    }

    private static void blankAndEmptyList() {
        CHECKER.sentence("_ and an empty list: error 3");
        for (String wrong : new String[] {"_", "()"}) {
            CHECKER.fails(wrong, -3000);
            CHECKER.fails("(" + wrong + ")", -3000);
            CHECKER.fails("(" + wrong + " 1)", -3000);
            CHECKER.fails("(+ " + wrong + ")", -3000);
            CHECKER.fails("(fn (x) " + wrong + ")", -3000);
            CHECKER.fails("(if 1 2 " + wrong + ")", -3000);
            CHECKER.fails("(ls (m) " + wrong + ")", -3000);
            CHECKER.fails(CHECKER.with("(m ((_ a) a))"), "(m " + wrong + ")", -3000);
            CHECKER.makes("(q " + wrong + ")", "(q " + wrong + ")");
        }
    }

    private static void lengthsOfForms() {
        CHECKER.sentence("or the list is none of these: error 3, before anything else");
        String[] forms = {"(fn (x) 1)", "(if 1 1 1)", "(q 1)", "(ls (m) 1)"};
        String[] made = {"(fn (v0) 1)", "(if 1 1 1)", "(q 1)", "1"};
        for (int k = 0; k < forms.length; k++) {
            MarkedNames names = new MarkedNames();
            CHECKER.makes(names, forms[k], made[k]);
            String open = forms[k].substring(0, forms[k].length() - 1);
            for (String wrong : new String[] {open + " 1)", open + " 1 1)", open.substring(0, open.length() - 2) + ")"}) {
                CHECKER.fails(names, wrong, -3000);
                CHECKER.counts(names, "0 0 0 8");
            }
            CHECKER.fails(names, open.substring(0, open.length() - 2) + " x x x x)", -3000);
        }
        for (String wrong : new String[] {"(fn)", "(if)", "(if 1)", "(q)", "(ls)", "(ls 1)"}) {
            CHECKER.fails(wrong, -3000);
        }
    }

    private static void dotsInForms() {
        CHECKER.sentence("(.. in it, too): error 3, before anything else");
        for (String wrong : new String[] {"(fn .. (x) y)", "(fn (x) .. y)", "(fn (x) y ..)", "(fn (x ..) y)", "(fn (x .. z) y)",
            "(fn ..)", "(fn (x) ..)", "(if .. y y y)", "(if y .. y y)", "(if y y .. y)", "(if y y y ..)", "(if y y ..)",
            "(q .. y)", "(q y ..)", "(q ..)", "(ls .. (m) y)", "(ls (m) .. y)", "(ls (m) y ..)", "(ls (m ..) y)", "(ls (m) ..)"}) {
            MarkedNames names = new MarkedNames();
            CHECKER.fails(names, wrong, -3000);
            CHECKER.counts(names, "0 0 0 8");
        }
        CHECKER.makes("(q (y ..))", "(q (y ..))");
    }

    private static void namesOfFn() {
        CHECKER.sentence("(fn (names) e)");
        CHECKER.makes("(fn () 1)", "(fn () 1)");
        CHECKER.makes("(fn (a) 1)", "(fn (v0) 1)");
        CHECKER.makes("(fn (a b) 1)", "(fn (v0 v1) 1)");
        CHECKER.makes("(fn (abc + fn) fn)", "(fn (v0 v1 v2) v2)");
        for (String none : new String[] {"a", "1", "_", "(1)", "(_)", "(())", "((a))", "(a 1)", "(1 a)", "(a _)", "(a (b))", "(a () b)"}) {
            MarkedNames names = new MarkedNames();
            CHECKER.fails(names, "(fn " + none + " y)", -3000);
            CHECKER.counts(names, "0 0 0 8");
        }
    }

    private static void namesAlike() {
        CHECKER.sentence("each of these names in turn: if one before it has the same name and set: error 3");
        String[] lists = {"(a a)", "(a b a)", "(a b b)", "(a b c d a)", "(abc ab a abc)"};
        String[] counts = {"1 1 1 8", "1 2 2 8", "1 2 2 8", "1 4 4 8", "1 3 3 8"};
        for (int k = 0; k < lists.length; k++) {
            MarkedNames names = new MarkedNames();
            CHECKER.fails(names, "(fn " + lists[k] + " y)", -3000);
            CHECKER.counts(names, counts[k]);
        }
        CHECKER.makes("(fn (a ab abc b ba) ba)", "(fn (v0 v1 v2 v3 v4) v4)");
        MarkedNames names = CHECKER.with("(m ((_ a) (fn (a x) (x a))))", "(k ((_ a b) (fn (a b) (b a))))",
            "(n ((_ a) (fn (x a) (x a))))");
        CHECKER.makes(names, "(m x)", "(fn (v0 v1) (v1 v0))");
        // Here the first of the two names has the other's set in its own.
        CHECKER.makes(names, "(n x)", "(fn (v0 v1) (v0 v1))");
        CHECKER.makes(names, "(fn (x) (n x))", "(fn (v0) (fn (v1 v2) (v1 v2)))");
        CHECKER.fails(names, "(k x x)", -3000);
        CHECKER.makes(names, "(k x y)", "(fn (v0 v1) (v1 v0))");
    }

    private static void variablesNumbered() {
        CHECKER.sentence("is bound to a new variable, numbered from 0; a variable number k: v and k");
        CHECKER.makes("(fn (a b c d e f g h i) i)", "(fn (v0 v1 v2 v3 v4 v5 v6 v7 v8) v8)");
        CHECKER.makes("(fn (a b c d e f g h i j) j)", "(fn (v0 v1 v2 v3 v4 v5 v6 v7 v8 v9) v9)");
        CHECKER.makes("(fn (a b c d e f g h i j k) (k j))", "(fn (v0 v1 v2 v3 v4 v5 v6 v7 v8 v9 v10) (v10 v9))");
        CHECKER.makes("((fn (a) a) (fn () 1) (fn (a b) (b a)))", "((fn (v0) v0) (fn () 1) (fn (v1 v2) (v2 v1)))");
        MarkedNames names = new MarkedNames();
        CHECKER.makes(names, "(fn (a) a)", "(fn (v0) v0)");
        CHECKER.makes(names, "(fn (b) b)", "(fn (v0) v0)");
    }

    private static void quoted() {
        CHECKER.sentence("(q t): (q t) as it is, without sets, .. and _ too");
        for (String t : new String[] {"x", "0", "99", "_", "()", "(_ ..)", "(x .. 1 .. (2 ..) ..)", "(q x)", "(fn (x x) x)", "(((((((1)))))))"}) {
            CHECKER.makes("(q " + t + ")", "(q " + t + ")");
        }
        CHECKER.makes("(fn (x) (q x))", "(fn (v0) (q x))");
        MarkedNames names = CHECKER.with("(m ((_ a) (fn (x) (q (x a)))))");
        CHECKER.makes(names, "(m x)", "(fn (v0) (q (x x)))");
        CHECKER.makes(names, "(m (m m))", "(fn (v0) (q (x (m m))))");
        CHECKER.counts(names, "2 1 1 7");
    }

    private static void scopesOfLs() {
        CHECKER.sentence("a new scope is given to the name m and to all names in e");
        CHECKER.makes("(ls (m ((_) 1) ((_ a) (a))) (+ (m) (m *)))", "(+ 1 (*))");
        CHECKER.fails("(ls (m ((_) (m)) ) (m))", -1000);
        CHECKER.makes(CHECKER.with("(m ((_) 1))"), "(ls (m ((_) (m))) (m))", "1");
        CHECKER.makes("(fn (x) (ls (m ((_) x)) (fn (x) (x (m)))))", "(fn (v0) (fn (v1) (v1 v0)))");
        MarkedNames names = new MarkedNames();
        CHECKER.makes(names, "(ls (m) (ls (k) 1))", "1");
        CHECKER.counts(names, "2 2 0 8");
    }

    private static void scopesTurned() {
        CHECKER.sentence("a new scope is TURNED in all names of the list (given if they have it not, else taken)");
        MarkedNames names = CHECKER.with("(or ((_ a b) ((fn (t) (if t t b)) a)))", "(id ((_ a) a))", "(sw ((_ a b) (b a)))");
        CHECKER.makes(names, "(fn (t) (or t t))", "(fn (v0) ((fn (v1) (if v1 v1 v0)) v0))");
        CHECKER.makes(names, "(fn (t) (or t (or 1 t)))", "(fn (v0) ((fn (v1) (if v1 v1 ((fn (v2) (if v2 v2 v0)) 1))) v0))");
        CHECKER.makes(names, "(fn (t) (id (id t)))", "(fn (v0) v0)");
        CHECKER.makes(names, "(fn (t) (sw t (fn (t) t)))", "(fn (v0) ((fn (v1) v1) v0))");
        CHECKER.makes(names, "(fn (fn if) (or fn if))", "(fn (v0 v1) ((fn (v2) (if v2 v2 v1)) v0))");
    }

    private static void meaningBeforeAnythingElse() {
        CHECKER.sentence("what it means is looked at before anything else of the list");
        for (String list : new String[] {"(x)", "(x ..)", "(x _)", "(x fn)", "(x () ..)", "(x (fn))"}) {
            CHECKER.fails(list, -1000);
        }
        for (String list : new String[] {"(fn x)", "(if x)", "(ls x x)", "(q x x)", "(if x x ..)"}) {
            CHECKER.fails(list, -3000);
        }
        CHECKER.makes("(fn (x) (x x))", "(fn (v0) (v0 v0))");
    }

    private static void otherLists() {
        CHECKER.sentence("any other list: (the texts of its trees), and error 3 where .. stands");
        CHECKER.makes("(1)", "(1)");
        CHECKER.makes("(1 2)", "(1 2)");
        CHECKER.makes("(+ (1) ((2)))", "(+ (1) ((2)))");
        CHECKER.makes("(fn (x) (x))", "(fn (v0) (v0))");
        for (String list : new String[] {"(1 ..)", "(1 .. 2)", "(1 2 ..)", "(+ ..)", "((1) ..)", "(1 (2 ..))"}) {
            CHECKER.fails(list, -3000);
        }
        CHECKER.sentence("(behind the text of what is before it)");
        CHECKER.fails("(1 x ..)", -1000);
        CHECKER.fails("(1 (x) ..)", -1000);
        CHECKER.fails("((x) ..)", -1000);
        CHECKER.fails("(1 .. x)", -3000);
        MarkedNames names = new MarkedNames();
        CHECKER.fails(names, "((fn (x) x) .. (fn (x) x))", -3000);
        CHECKER.counts(names, "1 1 1 8");
    }

    private static void fromTheLeft() {
        CHECKER.sentence("What comes first is told, everything being expanded from the left, inner things when they are come to.");
        MarkedNames names = CHECKER.with("(m ((_ 1) 1))", "(lp ((_) (lp)))");
        String[] parts = {"x", "fn", "(m)", "(lp)"};
        int[] due = {-1000, -3000, -4000, -5000};
        for (int a = 0; a < parts.length; a++) {
            for (String b : parts) {
                for (String open : new String[] {"(1 ", "(+ (1 2) ", "(if ", "(if 1 "}) {
                    String three = open.equals("(if ") ? " 3)" : ")";
                    CHECKER.fails(names, open + parts[a] + " " + b + three, due[a]);
                    CHECKER.fails(names, open + "(1 " + parts[a] + ") " + b + three, due[a]);
                }
                CHECKER.fails(names, "((fn (y) " + parts[a] + ") " + b + ")", due[a]);
                CHECKER.fails(names, "((ls (y) " + parts[a] + ") " + b + ")", due[a]);
            }
        }
    }
}
