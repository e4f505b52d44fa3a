/** Promise 3: rules, and what rules are (for ls too). */
public final class RulesTest {
    private static final Checker CHECKER = new Checker();

    public static void main(String[] args) {
        lists();
        patterns();
        templates();
        names();
        longest();
        typedIsTaken();
        lastExpansionStays();
        CHECKER.end();
    }

    private static void lists() {
        CHECKER.asTold("");
        CHECKER.asTold("((_) 1)");
        CHECKER.asTold("((_) 1) ((_ a) a)");
        CHECKER.notAsTold("1");
        CHECKER.notAsTold("x");
        CHECKER.notAsTold("_");
        CHECKER.notAsTold("()");
        CHECKER.notAsTold("((_))");
        CHECKER.notAsTold("((_) 1 2)");
        CHECKER.notAsTold("((_) ..)");
        CHECKER.notAsTold("((_) .. 1)");
        CHECKER.notAsTold("((_) 1 ..)");
        CHECKER.notAsTold("((_) 1) ..");
        CHECKER.notAsTold("..");
        CHECKER.notAsTold("((_) 1) ((_))");
        for (String none : new String[] {"m", "7", "_", "()", "(1)", "(_)", "((m) ((_) 1))"}) {
            CHECKER.gives(new MarkedNames(), none, -1000);
        }
        CHECKER.fails("(ls m 1)", -3000);
        CHECKER.fails("(ls () 1)", -3000);
        CHECKER.fails("(ls (1) 1)", -3000);
    }

    private static void patterns() {
        CHECKER.asTold("(((_ ..)) 1)");
        CHECKER.asTold("(((a .. b ..) c) c)");
        CHECKER.asTold("((a a) a)");
        CHECKER.asTold("((((((b ..) ..) ..)) a) a)");
        CHECKER.asTold("((_ a ..) 1)");
        CHECKER.asTold("((_ (a ..) ..) 1)");
        CHECKER.asTold("((_ (a b ..) (c ..)) 1)");
        CHECKER.asTold("((_ () (()) _ _ 7) 1)");
        CHECKER.asTold("((_ fn + q) (fn + q))");
        CHECKER.notAsTold("(x 1)");
        CHECKER.notAsTold("(1 1)");
        CHECKER.notAsTold("(() 1)");
        CHECKER.notAsTold("((_ ..) 1)");
        CHECKER.notAsTold("((a .. b) 1)");
        CHECKER.notAsTold("((_ a .. b) 1)");
        CHECKER.notAsTold("((_ a .. b ..) 1)");
        CHECKER.notAsTold("((_ (a .. b)) 1)");
        CHECKER.notAsTold("((_ a a) 1)");
        CHECKER.notAsTold("((_ a (b (a))) 1)");
        CHECKER.notAsTold("((_ ((a ..) ..) ..) 1)");
        CHECKER.notAsTold("((_ ((1 ..) ..) ..) 1)");
        CHECKER.notAsTold("((_ ((_ ..) ..) ..) 1)");
        CHECKER.notAsTold("((_ (() ..) .. 1) 1)");
    }

    private static void templates() {
        CHECKER.asTold("((_ a ..) (a ..))");
        CHECKER.asTold("((_ a ..) ((q a) .. 1))");
        CHECKER.asTold("((_ (a ..) ..) ((a ..) ..))");
        CHECKER.asTold("((_ (a b ..) ..) ((b .. a) .. (a ..)))");
        CHECKER.asTold("((_ a) _)");
        CHECKER.asTold("((_ a) ())");
        CHECKER.asTold("((a b) (a b))");
        CHECKER.notAsTold("((_ a ..) a)");
        CHECKER.notAsTold("((_ a ..) (a))");
        CHECKER.notAsTold("((_ a) (a ..))");
        CHECKER.notAsTold("((_ a) (1 ..))");
        CHECKER.notAsTold("((_ a) (_ ..))");
        CHECKER.notAsTold("((_ a) (() ..))");
        CHECKER.notAsTold("((a b) (a ..))");
        CHECKER.notAsTold("((_ a ..) ((a ..) ..))");
        CHECKER.notAsTold("((_ a b ..) ((a b) ..))");
        CHECKER.notAsTold("((_ (a ..) ..) (a ..))");
        CHECKER.notAsTold("((_ (a b ..) ..) ((a b) ..))");
        CHECKER.notAsTold("((_ (a ..) ..) ((a ..)))");
        CHECKER.notAsTold("((_ a ..) (a .. (1 ..)))");
        CHECKER.notAsTold("((_ (a ..) ..) (((a ..) ..) ..))");
    }

    private static void names() {
        MarkedNames names = new MarkedNames();
        CHECKER.gives(names, "(a ((_) 1))", 1);
        CHECKER.gives(names, "(b ((_) 2))", 2);
        CHECKER.gives(names, "(a ((_) 3))", 2);
        CHECKER.makes(names, "(+ (a) (b))", "(+ 3 2)");
        for (String first : new String[] {"fn", "if", "q", "ls", "+", "*", "=", "<"}) {
            CHECKER.gives(names, "(" + first + " ((_) 1))", -1001);
            CHECKER.gives(names, "(" + first + " 1)", -1000);
        }
        CHECKER.gives(names, "(c)", 3);
        CHECKER.gives(names, "(abc ((_) 4))", 4);
        CHECKER.gives(names, "(e)", -1001);
        CHECKER.gives(names, "(e 1)", -1000);
        CHECKER.gives(names, "(c ((_) 5))", 4);
        CHECKER.makes(names, "(+ (a) (b) (c) (abc) (if (a) (q (c)) 1))", "(+ 3 2 5 4 (if 3 (q (c)) 1))");
        CHECKER.fails(names, "(e)", -1000);
        CHECKER.fails(names, "a", -3000);
    }

    /** Four names with rules of 120 tokens each, none of which is in the way of another. */
    private static void longest() {
        MarkedNames names = new MarkedNames();
        String[] signs = {"+", "*", "=", "<"};
        for (int k = 0; k < 4; k++) {
            CHECKER.gives(names, "(" + "abcd".charAt(k) + "((" + "_".repeat(112) + ")" + signs[k] + "))", k + 1);
        }
        for (int k = 0; k < 4; k++) {
            CHECKER.makes(names, "(" + "abcd".charAt(k) + "+".repeat(111) + ")", signs[k]);
            CHECKER.fails(names, "(" + "abcd".charAt(k) + "+".repeat(110) + ")", -4000);
        }
        CHECKER.gives(names, "(c)", 4);
        CHECKER.fails(names, "(c" + "+".repeat(111) + ")", -4000);
        CHECKER.makes(names, "(d" + "+".repeat(111) + ")", "<");
    }

    private static void typedIsTaken() {
        for (String text : new String[] {"(m)", "(m", "7", "(fn)"}) {
            MarkedNames names = new MarkedNames();
            Checker.typeText(names, text);
            names.rules();
            CHECKER.makes(names, "5", "5");
        }
    }

    private static void lastExpansionStays() {
        MarkedNames names = new MarkedNames();
        CHECKER.makes(names, "(fn (a) (ls (m ((_) a)) (m)))", "(fn (v0) v0)");
        CHECKER.gives(names, "(m ((_) 1))", 1);
        CHECKER.gives(names, "(m ((_) (1", -11);
        CHECKER.gives(names, "(q)", -1001);
        CHECKER.same("the text made before", Checker.made(names), "(fn (v0) v0)");
        CHECKER.same("its counts", Checker.counts(names), "3 2 1 7");
        CHECKER.makes(names, "(m)", "1");
    }
}
