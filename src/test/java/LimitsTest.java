/** Promise 4: error 6, each limit at its edge and one beyond it. */
public final class LimitsTest {
    private static final Checker CHECKER = new Checker();

    public static void main(String[] args) {
        scopes();
        bindings();
        filledTrees();
        orderInFilling();
        lengthOfText();
        orderInText();
        listsAround();
        CHECKER.end();
    }

    private static String ones(int n) {
        return "1 ".repeat(n).trim();
    }

    private static void scopes() {
        MarkedNames names = new MarkedNames();
        CHECKER.gives(names, "(s ((_) (ls (m) (ls (m) (ls (m) (ls (m) (ls (m) 1)))))))", 1);
        CHECKER.makes(names, "(+ (s) (s) (s) (s) (s))", "(+ 1 1 1 1 1)");
        CHECKER.same("counts at 30 scopes", Checker.counts(names), "30 25 0 3");
        CHECKER.fails(names, "(+ (s) (s) (s) (s) (s) (fn (x x) 1))", -6000);
        CHECKER.same("counts at the 31st, in fn", Checker.counts(names), "30 25 0 3");
        CHECKER.fails(names, "(+ (s) (s) (s) (s) (s) (ls (m) 1))", -6000);
        CHECKER.same("counts at the 31st, in ls", Checker.counts(names), "30 25 0 3");
        CHECKER.fails(names, "(+ (s) (s) (s) (s) (s) (s 1))", -6000);
        CHECKER.same("counts at the 31st, by rules", Checker.counts(names), "30 25 0 2");
        CHECKER.fails(names, "(+ (s) (s) (s) (s) (s) (fn (1) 1))", -3000);
    }

    private static void bindings() {
        String names32 = "a b c d e f g h i j k l m n o p q r s t u v w x y z + * = < aa bb";
        StringBuilder made = new StringBuilder("(fn (v0");
        for (int k = 1; k < 32; k++) {
            made.append(" v").append(k);
        }
        MarkedNames names = new MarkedNames();
        CHECKER.makes(names, "(fn (" + names32 + ") 1)", made + ") 1)");
        CHECKER.same("counts at 40 bindings", Checker.counts(names), "1 32 32 8");
        CHECKER.fails(names, "(fn (" + names32 + " cc) 1)", -6000);
        CHECKER.same("counts at the 41st", Checker.counts(names), "1 32 32 8");
        CHECKER.fails(names, "(fn (" + names32 + " aa) 1)", -3000);
        CHECKER.fails(names, "(fn (" + names32 + ") (ls (m) 1))", -6000);
        CHECKER.same("counts at the 41st, in ls", Checker.counts(names), "2 32 32 8");
        CHECKER.gives(names, "(m)", 1);
        CHECKER.gives(names, "(k)", 2);
        CHECKER.gives(names, "(m ((_) 1))", 2);
        CHECKER.fails(names, "(fn (" + names32 + ") 1)", -6000);
        CHECKER.same("counts, two names having rules of their own", Checker.counts(names), "1 30 30 8");
    }

    private static void filledTrees() {
        MarkedNames names = new MarkedNames();
        CHECKER.gives(names, "(k ((_ _ _ _) 1))", 1);
        CHECKER.gives(names, "(m ((_ a b) (k a a b)))", 2);
        CHECKER.gives(names, "(r ((_ a ..) (k (a .. a ..) 2 3)))", 3);
        CHECKER.makes(names, "(m (" + ones(44) + ") (" + ones(7) + "))", "1");
        CHECKER.fails(names, "(m (" + ones(44) + ") (" + ones(8) + "))", -6000);
        CHECKER.same("counts at the 101st tree", Checker.counts(names), "1 0 0 7");
        CHECKER.makes(names, "(m (1 ..) (" + ones(50) + " ..))", "1");
        CHECKER.makes(names, "(r " + ones(47) + ")", "1");
        CHECKER.fails(names, "(r " + ones(48) + ")", -6000);
    }

    private static void orderInFilling() {
        MarkedNames names = new MarkedNames();
        CHECKER.gives(names, "(a ((_ (a ..) (b ..)) (q (a .. a .. (a b) ..))))", 1);
        CHECKER.gives(names, "(b ((_ (a ..) (b ..)) (q ((a b) .. a .. a ..))))", 2);
        CHECKER.fails(names, "(a (" + ones(50) + ") ())", -6000);
        CHECKER.fails(names, "(b (" + ones(50) + ") ())", -4000);
        CHECKER.fails(names, "(a (1) ())", -4000);
    }

    private static void lengthOfText() {
        MarkedNames names = new MarkedNames();
        CHECKER.gives(names, "(m ((_ a) (q (a a 10))))", 1);
        CHECKER.gives(names, "(k ((_ a) (q (a a))))", 2);
        String list95 = "(10 10 " + "11 ".repeat(28) + "1 1)";
        CHECKER.same("the list's length", list95.length(), 95);
        CHECKER.makes(names, "(m " + list95 + ")", "(q (" + list95 + " " + list95 + " 10))");
        CHECKER.same("expanded text's length", Checker.made(names).length(), 200);
        String list97 = "(" + "10 ".repeat(31) + "10)";
        CHECKER.same("the list's length", list97.length(), 97);
        CHECKER.fails(names, "(k " + list97 + ")", -6000);
        CHECKER.makes(names, "(k " + list95 + ")", "(q (" + list95 + " " + list95 + "))");
    }

    /** What would be wrong behind the 200th character is told as error 6 where the text grows first. */
    private static void orderInText() {
        MarkedNames names = new MarkedNames();
        CHECKER.gives(names, "(m ((_ a b ..) (a a b ..)))", 1);
        // (L L made of L with 98 characters: 1 + 98 + 1 + 98 = 198 characters, then a space.
        String list = "(" + "11 ".repeat(31) + "1 1)";
        CHECKER.same("the list's length", list.length(), 98);
        CHECKER.makes(names, "(m " + list + ")", "(" + list + " " + list + ")");
        CHECKER.fails(names, "(m " + list + " 1)", -6000);
        CHECKER.fails(names, "(m " + list + " x)", -1000);
        CHECKER.fails(names, "(m " + list + " ())", -3000);
        CHECKER.fails(names, "(m " + list + " (x))", -1000);
        CHECKER.fails(names, "(m " + list + " (1 x))", -6000);
        CHECKER.fails(names, "(m " + list + " 1 x)", -6000);
        CHECKER.fails(names, "(m " + list + " (fn (x x) 1))", -3000);
        CHECKER.fails(names, "(m " + list + " (fn (x y) 1))", -6000);
        CHECKER.same("fn binds its names before it makes its text", Checker.counts(names), "2 2 2 7");
        CHECKER.fails(names, "(m " + list + " (ls (m) x))", -1000);
    }

    private static void listsAround() {
        MarkedNames names = new MarkedNames();
        CHECKER.gives(names, "(w ((_ a) ((((a))))))", 1);
        CHECKER.gives(names, "(id ((_ a) a))", 2);
        CHECKER.makes(names, inFive("(w (1))"), inNine("(1)"));
        CHECKER.fails(names, inFive("(w ((1)))"), -6000);
        CHECKER.fails(names, inFive("(w ((x)))"), -6000);
        CHECKER.fails(names, inFive("(w ((_)))"), -6000);
        CHECKER.fails(names, inFive("(w (x))"), -1000);
        CHECKER.fails(names, inFive("(w (()))"), -6000);
        CHECKER.fails(names, inFive("(w ())"), -3000);
        CHECKER.fails(names, inFive("(w ((id 1)))"), -6000);
        CHECKER.same("its fuel", names.count(3), 7);
        CHECKER.makes(names, inFive("(w (id 1))"), inNine("1"));
        CHECKER.makes(names, inFive("(w (id (1)))"), inNine("(1)"));
        CHECKER.makes(names, inFive("(w (q ()))"), inNine("(q ())"));
        CHECKER.makes(names, inFive("(w (if 1 2 3))"), inNine("(if 1 2 3)"));
        CHECKER.fails(names, inFive("(w (if 1 2 (3)))"), -6000);
        CHECKER.makes(names, inFive("(w (fn () 3))"), inNine("(fn () 3)"));
        CHECKER.fails(names, inFive("(w (fn () (3)))"), -6000);
        CHECKER.makes(names, inFive("(w (ls (m) 3))"), inNine("3"));
        CHECKER.fails(names, inFive("(w (ls (m) (3)))"), -6000);
    }

    private static String inFive(String text) {
        return "(".repeat(5) + text + ")".repeat(5);
    }

    private static String inNine(String text) {
        return "(".repeat(9) + text + ")".repeat(9);
    }
}
