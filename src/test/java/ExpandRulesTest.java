/** Promise 4: lists whose first tree means rules; matching, filling and the sets of scopes. */
public final class ExpandRulesTest {
    private static final Checker CHECKER = new Checker();

    public static void main(String[] args) {
        matching();
        filling();
        rounds();
        hygiene();
        ambiguity();
        fuelAndOrder();
        CHECKER.end();
    }

    private static void matching() {
        MarkedNames names = CHECKER.with("(m ((_) 0) ((_ 7) 1) ((_ ()) 2) ((_ (a 1)) 3) ((_ (a 2 b ..)) 4) ((_ a _) 5) ((_ a b c ..) 6))");
        CHECKER.makes(names, "(m)", "0");
        CHECKER.makes(names, "(m 7)", "1");
        CHECKER.makes(names, "(m ())", "2");
        CHECKER.makes(names, "(m (_ 1))", "3");
        CHECKER.makes(names, "(m (x 2))", "4");
        CHECKER.makes(names, "(m (x 2 ()))", "4");
        CHECKER.makes(names, "(m (a ..) (b ..))", "5");
        CHECKER.makes(names, "(m _ _ (x ..))", "6");
        for (String none : new String[] {"(m 8)", "(m x)", "(m _)", "(m (1))", "(m (1 1 1))", "(m (1 2 ..))", "(m 7 ..)",
            "(m ..)", "(m .. 7)"}) {
            CHECKER.fails(names, none, -4000);
        }
        CHECKER.fails("(ls (m) (m))", -4000);
        CHECKER.makes("(ls (m (((a b) x) x)) (m 3))", "3");
        CHECKER.makes("(ls (m ((7 x) x)) (m 3))", "3");
    }

    private static void filling() {
        CHECKER.makes(CHECKER.with("(m ((_ a) (q (a _ a))))"), "(m (x .. _))", "(q ((x .. _) _ (x .. _)))");
        CHECKER.makes(CHECKER.with("(m ((m a) (q (m a))))"), "(m 1)", "(q (m 1))");
        CHECKER.makes(CHECKER.with("(m ((_ + *) (* + +)))"), "(m 1 <)", "(< 1 1)");
        CHECKER.makes(CHECKER.with("(m ((_ a) a))"), "(m (m (m 5)))", "5");
        CHECKER.makes(CHECKER.with("(m ((_ a) (k a)))", "(k ((_ a) (q a)))"), "(m k)", "(q k)");
        CHECKER.fails(CHECKER.with("(m ((_ a) (a)))"), "(m fn)", -3000);
        CHECKER.fails(CHECKER.with("(m ((_ a) _))"), "(m 1)", -3000);
        CHECKER.fails(CHECKER.with("(m ((_ a) ()))"), "(m 1)", -3000);
        CHECKER.fails(CHECKER.with("(m ((_ a) a))"), "(m (1 ..))", -3000);
    }

    private static void rounds() {
        MarkedNames names = CHECKER.with("(m ((_ (a b ..) ..) (q ((a ..) (b .. a) ..))))", "(z ((_ (a ..) (b ..)) (q (9 (a b) .. 9))))",
            "(t ((_ ((a ..) ..) ((b ..) ..)) (q (((a b) ..) ..))))", "(u ((_ (a ..) (b ..)) (q (a .. b .. (a ..)))))");
        CHECKER.makes(names, "(m)", "(q (()))");
        CHECKER.makes(names, "(m (1))", "(q ((1) (1)))");
        CHECKER.makes(names, "(m (1 2 3) (4) (5 6))", "(q ((1 4 5) (2 3 1) (4) (6 5)))");
        CHECKER.fails(names, "(m (1 2) ())", -4000);
        CHECKER.fails(names, "(m (1) 2)", -4000);
        CHECKER.makes(names, "(z () ())", "(q (9 9))");
        CHECKER.makes(names, "(z (1 2) (3 4))", "(q (9 (1 3) (2 4) 9))");
        CHECKER.fails(names, "(z (1 2) (3))", -4000);
        CHECKER.fails(names, "(z () (3))", -4000);
        CHECKER.makes(names, "(t () ())", "(q ())");
        CHECKER.makes(names, "(t (() (1 2)) (() (3 4)))", "(q (() ((1 3) (2 4))))");
        CHECKER.fails(names, "(t ((1) (1 2)) ((1) (3)))", -4000);
        CHECKER.fails(names, "(t ((1)) ((1) (3)))", -4000);
        CHECKER.makes(names, "(u (1 2) (3))", "(q (1 2 3 (1 2)))");
        CHECKER.makes(names, "(u () (3))", "(q (3 ()))");
        CHECKER.makes(CHECKER.with("(m ((_ (_ ..) ..) 1) ((_ (1 ..) ..) 2))"), "(m (1 2) ())", "1");
        CHECKER.makes(CHECKER.with("(m ((_ (1 ..) ..) 1) ((_ x ..) 2))"), "(m (1 1) () (2))", "2");
    }

    private static void hygiene() {
        MarkedNames names = CHECKER.with("(or ((_ a b) ((fn (t) (if t t b)) a)))", "(let ((_ ((x e) ..) b) ((fn (x ..) b) e ..)))",
            "(my ((_ a) (if a 1 2)))", "(bnd ((_ x b) (fn (x) b)))");
        CHECKER.makes(names, "(fn (t) (or 1 t))", "(fn (v0) ((fn (v1) (if v1 v1 v0)) 1))");
        CHECKER.makes(names, "(or 1 (or 2 3))", "((fn (v0) (if v0 v0 ((fn (v1) (if v1 v1 3)) 2))) 1)");
        CHECKER.fails(names, "(or 1 t)", -1000);
        CHECKER.makes(names, "(fn (if) (my if))", "(fn (v0) (if v0 1 2))");
        CHECKER.makes(names, "(fn (fn) (or fn 1))", "(fn (v0) ((fn (v1) (if v1 v1 1)) v0))");
        CHECKER.makes(names, "(bnd t (or t t))", "(fn (v0) ((fn (v1) (if v1 v1 v0)) v0))");
        CHECKER.makes(names, "(let ((a 1) (b 2)) (+ a b))", "((fn (v0 v1) (+ v0 v1)) 1 2)");
        CHECKER.makes(names, "(fn (or) (or 1 2))", "(fn (v0) (v0 1 2))");
        CHECKER.makes("(ls (x ((_ x) x)) (fn (x) x))", "(fn (v0) v0)");
        CHECKER.fails("(ls (m ((_ x) (m x))) (m 1))", -1000);
        CHECKER.makes("(ls (q ((_ x) (q x))) (q 1))", "(q 1)");
        CHECKER.makes("(ls (if ((_ x) x)) (if 1))", "1");
        CHECKER.makes("(fn (a) (ls (m ((_) a)) (fn (a) (m))))", "(fn (v0) (fn (v1) v0))");
        CHECKER.makes("(ls (m ((_ a) (fn (a x) (a x)))) (m x))", "(fn (v0 v1) (v0 v1))");
        CHECKER.makes("(ls (m ((_ a) (fn (x a) (a x)))) (m x))", "(fn (v0 v1) (v1 v0))");
        CHECKER.makes("(ls (m ((_ a) (ls (k ((_ x) (x a))) (k a)))) (m 1))", "(1 1)");
        CHECKER.makes("(fn (y) (ls (m ((_ k b) (ls (k ((_) y)) b))) (m z (z))))", "(fn (v0) v0)");
    }

    private static void ambiguity() {
        MarkedNames names = CHECKER.with("(k ((_ a) (fn (x) (ls (m ((_) (fn (a) x))) (m)))))",
            "(h ((_ a) (fn (x) (ls (m ((_) (fn (a) (x)))) (m)))))");
        CHECKER.fails(names, "(k x)", -2000);
        CHECKER.same("counts of the ambiguous one", Checker.counts(names), "5 3 2 6");
        CHECKER.fails(names, "(h x)", -2000);
        CHECKER.makes(names, "(k y)", "(fn (v0) (fn (v1) v0))");
    }

    private static void fuelAndOrder() {
        MarkedNames names = CHECKER.with("(lp ((_) (lp)))", "(s ((_ a ..) (fn (x) (a ..))))");
        CHECKER.fails(names, "(lp)", -5000);
        CHECKER.same("counts", Checker.counts(names), "8 0 0 0");
        Checker.typeText(names, "(s .. 1)");
        CHECKER.same("expand(0), which is looked at before matching", names.expand(0), -5000);
        CHECKER.same("counts", Checker.counts(names), "0 0 0 0");
        CHECKER.fails(names, "(s .. 1)", -4000);
        CHECKER.same("counts", Checker.counts(names), "1 0 0 7");
        CHECKER.fails(names, "(s + x)", -1000);
        CHECKER.same("counts", Checker.counts(names), "2 1 1 7");
        CHECKER.makes(names, "(s s s + 1)", "(fn (v0) (fn (v1) (fn (v2) (+ 1))))");
        CHECKER.same("counts", Checker.counts(names), "6 3 3 5");
    }
}
