/** Promise 3: rules, and what rules are (for ls too). */
public final class RulesTest {
    private static final Checker CHECKER = new Checker();

    public static void main(String[] args) {
        lists();
        patterns();
        templates();
        names();
        longest();
        typedIsTaken();
        lastExpansionStays();
        CHECKER.end();
    }

    /** Rules that are as told, given to an object and in ls; the list is without its name. */
    private static void asTold(String rules) {
        CHECKER.gives(new MarkedNames(), "(m " + rules + ")", 1);
        CHECKER.makes("(ls (m " + rules + ") 1)", "1");
    }

    private static void notAsTold(String rules) {
        CHECKER.gives(new MarkedNames(), "(m " + rules + ")", -1000);
        CHECKER.fails("(ls (m " + rules + ") 1)", -3000);
    }

    private static void lists() {
        asTold("");
        asTold("((_) 1)");
        asTold("((_) 1) ((_ a) a)");
        notAsTold("1");
        notAsTold("x");
        notAsTold("_");
        notAsTold("()");
        notAsTold("((_))");
        notAsTold("((_) 1 2)");
        notAsTold("((_) ..)");
        notAsTold("((_) .. 1)");
        notAsTold("((_) 1 ..)");
        notAsTold("((_) 1) ..");
        notAsTold("..");
        notAsTold("((_) 1) ((_))");
        for (String none : new String[] {"m", "7", "_", "()", "(1)", "(_)", "((m) ((_) 1))"}) {
            CHECKER.gives(new MarkedNames(), none, -1000);
        }
        CHECKER.fails("(ls m 1)", -3000);
        CHECKER.fails("(ls () 1)", -3000);
        CHECKER.fails("(ls (1) 1)", -3000);
    }

    private static void patterns() {
        asTold("(((_ ..)) 1)");
        asTold("(((a .. b ..) c) c)");
        asTold("((a a) a)");
        asTold("((((((b ..) ..) ..)) a) a)");
        asTold("((_ a ..) 1)");
        asTold("((_ (a ..) ..) 1)");
        asTold("((_ (a b ..) (c ..)) 1)");
        asTold("((_ () (()) _ _ 7) 1)");
        asTold("((_ fn + q) (fn + q))");
        notAsTold("(x 1)");
        notAsTold("(1 1)");
        notAsTold("(() 1)");
        notAsTold("((_ ..) 1)");
        notAsTold("((a .. b) 1)");
        notAsTold("((_ a .. b) 1)");
        notAsTold("((_ a .. b ..) 1)");
        notAsTold("((_ (a .. b)) 1)");
        notAsTold("((_ a a) 1)");
        notAsTold("((_ a (b (a))) 1)");
        notAsTold("((_ ((a ..) ..) ..) 1)");
        notAsTold("((_ ((1 ..) ..) ..) 1)");
        notAsTold("((_ ((_ ..) ..) ..) 1)");
        notAsTold("((_ (() ..) .. 1) 1)");
    }

    private static void templates() {
        asTold("((_ a ..) (a ..))");
        asTold("((_ a ..) ((q a) .. 1))");
        asTold("((_ (a ..) ..) ((a ..) ..))");
        asTold("((_ (a b ..) ..) ((b .. a) .. (a ..)))");
        asTold("((_ a) _)");
        asTold("((_ a) ())");
        asTold("((a b) (a b))");
        notAsTold("((_ a ..) a)");
        notAsTold("((_ a ..) (a))");
        notAsTold("((_ a) (a ..))");
        notAsTold("((_ a) (1 ..))");
        notAsTold("((_ a) (_ ..))");
        notAsTold("((_ a) (() ..))");
        notAsTold("((a b) (a ..))");
        notAsTold("((_ a ..) ((a ..) ..))");
        notAsTold("((_ a b ..) ((a b) ..))");
        notAsTold("((_ (a ..) ..) (a ..))");
        notAsTold("((_ (a b ..) ..) ((a b) ..))");
        notAsTold("((_ (a ..) ..) ((a ..)))");
        notAsTold("((_ a ..) (a .. (1 ..)))");
        notAsTold("((_ (a ..) ..) (((a ..) ..) ..))");
    }

    private static void names() {
        MarkedNames names = new MarkedNames();
        CHECKER.gives(names, "(a ((_) 1))", 1);
        CHECKER.gives(names, "(b ((_) 2))", 2);
        CHECKER.gives(names, "(a ((_) 3))", 2);
        CHECKER.makes(names, "(+ (a) (b))", "(+ 3 2)");
        for (String first : new String[] {"fn", "if", "q", "ls", "+", "*", "=", "<"}) {
            CHECKER.gives(names, "(" + first + " ((_) 1))", -1001);
            CHECKER.gives(names, "(" + first + " 1)", -1000);
        }
        CHECKER.gives(names, "(c)", 3);
        CHECKER.gives(names, "(abc ((_) 4))", 4);
        CHECKER.gives(names, "(e)", -1001);
        CHECKER.gives(names, "(e 1)", -1000);
        CHECKER.gives(names, "(c ((_) 5))", 4);
        CHECKER.makes(names, "(+ (a) (b) (c) (abc) (if (a) (q (c)) 1))", "(+ 3 2 5 4 (if 3 (q (c)) 1))");
        CHECKER.fails(names, "(e)", -1000);
        CHECKER.fails(names, "a", -3000);
    }

    /** Four names with rules of 120 tokens each, none of which is in the way of another. */
    private static void longest() {
        MarkedNames names = new MarkedNames();
        String[] signs = {"+", "*", "=", "<"};
        for (int k = 0; k < 4; k++) {
            CHECKER.gives(names, "(" + "abcd".charAt(k) + "((" + "_".repeat(112) + ")" + signs[k] + "))", k + 1);
        }
        for (int k = 0; k < 4; k++) {
            CHECKER.makes(names, "(" + "abcd".charAt(k) + "+".repeat(111) + ")", signs[k]);
            CHECKER.fails(names, "(" + "abcd".charAt(k) + "+".repeat(110) + ")", -4000);
        }
        CHECKER.gives(names, "(c)", 4);
        CHECKER.fails(names, "(c" + "+".repeat(111) + ")", -4000);
        CHECKER.makes(names, "(d" + "+".repeat(111) + ")", "<");
    }

    private static void typedIsTaken() {
        for (String text : new String[] {"(m)", "(m", "7", "(fn)"}) {
            MarkedNames names = new MarkedNames();
            Checker.typeText(names, text);
            names.rules();
            CHECKER.makes(names, "5", "5");
        }
    }

    private static void lastExpansionStays() {
        MarkedNames names = new MarkedNames();
        CHECKER.makes(names, "(fn (a) (ls (m ((_) a)) (m)))", "(fn (v0) v0)");
        CHECKER.gives(names, "(m ((_) 1))", 1);
        CHECKER.gives(names, "(m ((_) (1", -11);
        CHECKER.gives(names, "(q)", -1001);
        CHECKER.same("the text made before", Checker.made(names), "(fn (v0) v0)");
        CHECKER.same("its counts", Checker.counts(names), "3 2 1 7");
        CHECKER.makes(names, "(m)", "1");
    }
}
