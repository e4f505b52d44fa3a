/** Promise 4: numbers, names, the core forms and other lists. */
public final class ExpandFormsTest {
    private static final Checker CHECKER = new Checker();

    public static void main(String[] args) {
        leaves();
        functions();
        ifsAndQuotes();
        otherLists();
        orderOfErrors();
        fuel();
        CHECKER.end();
    }

    private static void leaves() {
        CHECKER.makes("0", "0");
        CHECKER.makes("42", "42");
        for (String value : new String[] {"+", "*", "=", "<"}) {
            CHECKER.makes(value, value);
        }
        for (String wrong : new String[] {"fn", "if", "q", "ls", "_", "()"}) {
            CHECKER.fails(wrong, -3000);
        }
        CHECKER.fails("x", -1000);
    }

    private static void functions() {
        CHECKER.makes("(fn () 1)", "(fn () 1)");
        CHECKER.makes("(fn (x) x)", "(fn (v0) v0)");
        CHECKER.makes("(fn (x y) (fn (x) (x y)))", "(fn (v0 v1) (fn (v2) (v2 v1)))");
        CHECKER.makes("((fn (a) a) (fn (a) a))", "((fn (v0) v0) (fn (v1) v1))");
        CHECKER.makes("(fn (fn + q) (fn + q))", "(fn (v0 v1 v2) (v0 v1 v2))");
        CHECKER.makes("(fn (a b c d e f g h i j k) k)", "(fn (v0 v1 v2 v3 v4 v5 v6 v7 v8 v9 v10) v10)");
        for (String wrong : new String[] {"(fn)", "(fn (x))", "(fn (x) x x)", "(fn x x)", "(fn 1 x)", "(fn (1) x)",
            "(fn (x (y)) x)", "(fn (_) 1)", "(fn (x ..) x)", "(fn (x) .. x)", "(fn (x) x ..)", "(fn .. (x) x)",
            "(fn (x x) x)", "(fn (x y x) x)"}) {
            CHECKER.fails(wrong, -3000);
        }
        CHECKER.fails("((fn (x) x) x)", -1000);
    }

    private static void ifsAndQuotes() {
        CHECKER.makes("(if 1 + (if 2 3 4))", "(if 1 + (if 2 3 4))");
        for (String wrong : new String[] {"(if)", "(if 1 2)", "(if 1 2 3 4)", "(if 1 2 3 ..)", "(if .. 1 2 3)"}) {
            CHECKER.fails(wrong, -3000);
        }
        CHECKER.makes("(q x)", "(q x)");
        CHECKER.makes("(q ())", "(q ())");
        CHECKER.makes("(q _)", "(q _)");
        CHECKER.makes("(fn (x) (q (x .. (_ 1 ..) fn)))", "(fn (v0) (q (x .. (_ 1 ..) fn)))");
        for (String wrong : new String[] {"(q)", "(q 1 2)", "(q 1 ..)", "(q ..)", "(q .. 1)"}) {
            CHECKER.fails(wrong, -3000);
        }
    }

    private static void otherLists() {
        CHECKER.makes("(1)", "(1)");
        CHECKER.makes("(+ 1 (* 2 3))", "(+ 1 (* 2 3))");
        CHECKER.makes("((+) (1 2))", "((+) (1 2))");
        CHECKER.fails("(_ 1)", -3000);
        CHECKER.fails("(1 _)", -3000);
        CHECKER.fails("(1 ())", -3000);
        CHECKER.fails("(1 ..)", -3000);
        CHECKER.fails("(+ fn)", -3000);
    }

    private static void orderOfErrors() {
        CHECKER.fails("(x ..)", -1000);
        CHECKER.fails("(1 x ..)", -1000);
        CHECKER.fails("(1 .. x)", -3000);
        CHECKER.fails("(1 fn x)", -3000);
        CHECKER.fails("(1 x fn)", -1000);
        CHECKER.fails("(if x 1)", -3000);
        CHECKER.fails("(if x fn 1)", -1000);
        CHECKER.fails("(if fn x 1)", -3000);
        CHECKER.fails("(fn (x x) y)", -3000);
        CHECKER.fails("(ls (m 1) x)", -3000);
        CHECKER.fails("(x fn)", -1000);
        CHECKER.fails("((x) fn)", -1000);
    }

    private static void fuel() {
        MarkedNames names = new MarkedNames();
        CHECKER.makes(names, "(fn (a) 1)", "(fn (v0) 1)");
        Checker.typeText(names, "(ls (m ((_) 5)) (m))");
        for (int wrong : new int[] {-1, 9, Integer.MAX_VALUE, Integer.MIN_VALUE}) {
            CHECKER.same("expand(" + wrong + ")", names.expand(wrong), -7000);
            CHECKER.same("the text from before", Checker.made(names), "(fn (v0) 1)");
            CHECKER.same("the counts from before", Checker.counts(names), "1 1 1 8");
        }
        CHECKER.same("expand(1) of what is typed still", names.expand(1), 1);
        CHECKER.same("the text", Checker.made(names), "5");
        CHECKER.same("nothing is typed then", names.expand(1), -1);
        Checker.typeText(names, "(ls (m ((_) 5)) (m))");
        CHECKER.same("expand(0)", names.expand(0), -5000);
        CHECKER.same("nothing is typed then", names.expand(0), -1);
    }
}
