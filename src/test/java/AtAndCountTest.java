/** Promises 5 and 6: at and count. */
public final class AtAndCountTest {
    private static final Checker CHECKER = new Checker();

    public static void main(String[] args) {
        places();
        counts();
        CHECKER.end();
    }

    private static void places() {
        MarkedNames names = new MarkedNames();
        CHECKER.makes(names, "(+ 1 (q _))", "(+ 1 (q _))");
        CHECKER.same("at(0)", names.at(0), (int) '(');
        CHECKER.same("at(1)", names.at(1), (int) '+');
        CHECKER.same("at(10)", names.at(10), (int) ')');
        for (int i : new int[] {11, 12, 199, 200, 201, -1, Integer.MAX_VALUE, Integer.MIN_VALUE}) {
            CHECKER.same("at(" + i + ")", names.at(i), -1);
        }
        Checker.typeText(names, "7");
        CHECKER.same("at(0) while typing", names.at(0), (int) '(');
        names.expand(8);
        CHECKER.same("at(0)", names.at(0), (int) '7');
        CHECKER.same("at(1), where a longer text was", names.at(1), -1);
        CHECKER.fails(names, "(+ 1 x)", -1000);
        CHECKER.makes(names, "7", "7");
        CHECKER.fails(names, "(+ 1", -5);
    }

    private static void counts() {
        MarkedNames names = new MarkedNames();
        CHECKER.gives(names, "(m ((_ a b) (fn (a) b)))", 1);
        CHECKER.makes(names, "(m x (ls (k ((_ a) (a x))) (k +)))", "(fn (v0) (+ v0))");
        CHECKER.same("counts", Checker.counts(names), "4 2 1 6");
        for (int what : new int[] {-1, 4, 5, Integer.MAX_VALUE, Integer.MIN_VALUE}) {
            CHECKER.same("count(" + what + ")", names.count(what), -1);
        }
        CHECKER.fails(names, "(m x (+ x y))", -1000);
        CHECKER.same("counts with an error", Checker.counts(names), "2 1 1 7");
        CHECKER.fails(names, "(fn (a b a c) 1)", -3000);
        CHECKER.same("counts with an error in fn's names", Checker.counts(names), "1 2 2 8");
        CHECKER.fails(names, "(fn (a) (1 a", -13);
        CHECKER.same("counts of a faulty text", Checker.counts(names), "0 0 0 0");
        CHECKER.makes(names, "1", "1");
        CHECKER.same("counts of a number", Checker.counts(names), "0 0 0 8");
        Checker.typeText(names, "(fn (a) a)");
        CHECKER.same("expand(3)", names.expand(3), 12);
        CHECKER.same("counts", Checker.counts(names), "1 1 1 3");
    }
}
