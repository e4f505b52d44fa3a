/** The edges of what rules must be (promise 3, and ls of promise 4): each sentence inside, on and beyond its edge. */
public final class RuleEdgesTest {
    private static final Checker CHECKER = new Checker();

    public static void main(String[] args) {
        nameAndRules();
        anyNumberOfRules();
        patternAndTemplate();
        atLeastOneTree();
        firstTree();
        oneDotsAtTheEnd();
        noTwoVariablesAlike();
        patternHeldByTwo();
        usesHeldAsDeep();
        dotsHoldAUse();
        templateHeldByTwo();
        blanksStay();
        setsOfRulesMadeByRules();
        CHECKER.end();
    }

    private static void nameAndRules() {
        CHECKER.sentence("Takes what is typed as a list of a name and rules .. -1000 if it is no such list");
        for (String none : new String[] {"m", "7", "_", "()", "(1)", "(_)", "(())", "((m))", "((m) ((_) 1))", "(1 ((_) 1))"}) {
            CHECKER.gives(new MarkedNames(), none, -1000);
            CHECKER.fails("(ls " + none + " 1)", -3000);
        }
        for (String dots : new String[] {"(m ..)", "(m .. ((_) 1))", "(m ((_) 1) ..)", "(m ((_) 1) .. ((_) 1))"}) {
            CHECKER.gives(new MarkedNames(), dots, -1000);
            CHECKER.fails("(ls " + dots + " 1)", -3000);
        }
        CHECKER.gives(new MarkedNames(), "(m)", 1);
        CHECKER.gives(new MarkedNames(), "(abc((_)1))", 1);
    }

    private static void anyNumberOfRules() {
        CHECKER.sentence("RULES are ( PATTERN TEMPLATE ), any number of them in a row");
        for (int n : new int[] {0, 1, 2, 3, 17, 18}) {
            CHECKER.asTold("((_)1)".repeat(n));
        }
        CHECKER.gives(new MarkedNames(), "(m" + "((_)1)".repeat(19) + ")", 1);
        CHECKER.notAsTold("((_)1)".repeat(17) + "1");
        CHECKER.notAsTold("1" + "((_)1)".repeat(17));
        CHECKER.notAsTold("((_)1)".repeat(8) + "((_))" + "((_)1)".repeat(8));
        MarkedNames names = new MarkedNames();
        CHECKER.gives(names, "(m((_ 1)1)((_ 2)2)((_ 3)3)((_ 4)4)((_ 5)5)((_ 6)6)((_ 7)7)((_ 8)8)((_ 9)9)((_ 0)0)((_ _)+))", 1);
        for (int n = 0; n < 12; n++) {
            CHECKER.makes(names, "(m " + n + ")", n < 10 ? Integer.toString(n) : "+");
        }
    }

    private static void patternAndTemplate() {
        CHECKER.sentence("RULES are ( PATTERN TEMPLATE )");
        CHECKER.notAsTold("()");
        CHECKER.notAsTold("((_))");
        CHECKER.asTold("((_) 1)");
        CHECKER.notAsTold("((_) 1 1)");
        CHECKER.notAsTold("((_) .. 1)");
        CHECKER.notAsTold("((_) 1 ..)");
        for (String none : new String[] {"1", "_", "x"}) {
            CHECKER.notAsTold(none);
        }
        for (String template : new String[] {"x", "0", "_", "()", "(())", "(x (1 _))"}) {
            CHECKER.asTold("((_) " + template + ")");
        }
    }

    private static void atLeastOneTree() {
        CHECKER.sentence("A PATTERN is a list with at least one tree");
        for (String none : new String[] {"x", "1", "_", "()"}) {
            CHECKER.notAsTold("(" + none + " 1)");
        }
        for (String pattern : new String[] {"(_)", "(x)", "(1)", "(())", "(_ _)"}) {
            CHECKER.asTold("(" + pattern + " 1)");
        }
    }

    private static void firstTree() {
        CHECKER.sentence("its first tree, which no .. holds, counts for nothing");
        for (String first : new String[] {"_", "x", "1", "()", "(x)", "(x x)", "(x .. y ..)", "((((x ..) ..) ..))"}) {
            CHECKER.asTold("((" + first + ") 1)");
            CHECKER.asTold("((" + first + " x) x)");
            CHECKER.asTold("((" + first + " x ..) (x ..))");
            CHECKER.notAsTold("((" + first + " ..) 1)");
            CHECKER.notAsTold("((" + first + " .. y) 1)");
            CHECKER.notAsTold("((" + first + ") (x ..))");
        }
        CHECKER.makes(CHECKER.with("(m ((a b) (q (a b))))"), "(m 1)", "(q (a 1))");
        CHECKER.makes(CHECKER.with("(m (((a) b) (q (a b))))"), "(m 1)", "(q (a 1))");
    }

    private static void oneDotsAtTheEnd() {
        CHECKER.sentence("In one bracket of a pattern stands at most one .., and only at its end.");
        for (String told : new String[] {"(_ a ..)", "(_ a b ..)", "(_ (a ..) (b ..) c ..)", "(_ (a ..))", "(_ (a (b ..) ..))"}) {
            CHECKER.asTold("(" + told + " 1)");
        }
        for (String not : new String[] {"(_ a .. b)", "(_ a .. b ..)", "(_ (a .. b))", "(_ (a .. b ..))", "(_ (a .. b ..) ..)",
            "(_ a .. 1)", "(_ a .. _)", "(_ a .. ())", "(_ ((a .. b)))"}) {
            CHECKER.notAsTold("(" + not + " 1)");
        }
    }

    private static void noTwoVariablesAlike() {
        CHECKER.sentence("No two variables have the same name and set");
        for (String told : new String[] {"(_ a b)", "(_ a aa aaa)", "(_ ab ba)", "(a a)", "((a) a)", "(_ _ _)", "(_ 1 1)", "(_ () ())"}) {
            CHECKER.asTold("(" + told + " 1)");
        }
        for (String not : new String[] {"(_ a a)", "(_ a b a)", "(_ a (a))", "(_ (a) (a))", "(_ a a ..)", "(_ (a ..) a)",
            "(_ (a ..) a ..)", "(_ aaa (b (aaa)))", "(_ + +)", "(a b b)"}) {
            CHECKER.notAsTold("(" + not + " 1)");
        }
    }

    private static void patternHeldByTwo() {
        CHECKER.sentence("nor is anything in a pattern held by more than 2");
        for (String held : new String[] {"a", "7", "_", "()", "(a)", "(7 a)"}) {
            CHECKER.asTold("((_ " + held + ") 1)");
            CHECKER.asTold("((_ " + held + " ..) 1)");
            CHECKER.asTold("((_ (" + held + " ..) ..) 1)");
            CHECKER.notAsTold("((_ ((" + held + " ..) ..) ..) 1)");
        }
        CHECKER.asTold("((_ (x ((a ..))) ..) 1)");
        CHECKER.notAsTold("((_ (x ((a ..) ..)) ..) 1)");
        CHECKER.asTold("((_ (x (y ..)) (z (a ..) ..)) 1)");
        // What holds the ls list holds nothing in its patterns.
        CHECKER.fails("(1 (ls (k ((_ (a ..) ..) ((a ..) ..))) x) ..)", -1000);
        CHECKER.fails("(1 (ls (k ((_ ((a ..) ..) ..) 1)) x) ..)", -3000);
    }

    private static void usesHeldAsDeep() {
        CHECKER.sentence("a USE; it is held by as many .. there as the depth");
        String[] patterns = {"(_ a)", "(_ a ..)", "(_ (a ..) ..)"};
        String[] templates = {"(a)", "(a ..)", "((a ..) ..)", "(((a ..) ..) ..)"};
        for (int depth = 0; depth < patterns.length; depth++) {
            for (int held = 0; held < templates.length; held++) {
                String rules = "(" + patterns[depth] + " " + templates[held] + ")";
                if (held == depth) {
                    CHECKER.asTold(rules);
                } else {
                    CHECKER.notAsTold(rules);
                }
            }
        }
        CHECKER.asTold("((_ a) a)");
        CHECKER.notAsTold("((_ a ..) a)");
        CHECKER.notAsTold("((_ (a ..) ..) a)");
        CHECKER.asTold("((_ (b a ..) ..) ((b a ..) ..))");
        CHECKER.asTold("((_ (b a ..) ..) (((a ..) b) ..))");
        CHECKER.notAsTold("((_ (b a ..) ..) (((a b) ..) ..))");
        CHECKER.notAsTold("((_ (b a ..) ..) (b a ..))");
        CHECKER.notAsTold("((_ c a ..) ((c a) ..))");
        CHECKER.notAsTold("((_ a ..) (a .. a))");
    }

    private static void dotsHoldAUse() {
        CHECKER.sentence("whatever .. holds has a use in it");
        for (String none : new String[] {"1", "_", "x", "()", "(x 1)", "fn"}) {
            CHECKER.notAsTold("((_ a ..) (" + none + " ..))");
            CHECKER.notAsTold("((_ a ..) (a .. " + none + " ..))");
            CHECKER.notAsTold("((_ a ..) (" + none + " .. a ..))");
            CHECKER.notAsTold("((_ (a ..) ..) ((a .. " + none + " ..) ..))");
            CHECKER.asTold("((_ a ..) ((" + none + " a) ..))");
            CHECKER.asTold("((_ a ..) (((" + none + " (a))) ..))");
        }
        CHECKER.notAsTold("((_) (x ..))");
        CHECKER.notAsTold("((x) (x ..))");
    }

    private static void templateHeldByTwo() {
        CHECKER.sentence("nothing is held by more than 2, nor is a .. behind another ..");
        CHECKER.asTold("((_ (a ..) ..) ((a ..) ..))");
        CHECKER.notAsTold("((_ (a ..) ..) (((a ..) ..) ..))");
        CHECKER.notAsTold("((_ (a ..) ..) (((1 a ..) ..) ..))");
        CHECKER.faulty("(m ((_ (a ..) ..) (a .. ..)))", 24);
    }

    private static void blanksStay() {
        CHECKER.sentence("A _ in a template is none of these (it stays).");
        CHECKER.makes(CHECKER.with("(m ((_ _ a) (q (_ a _))))"), "(m 1 2)", "(q (_ 2 _))");
        CHECKER.notAsTold("((_ _ ..) (_ ..))");
        CHECKER.makes(CHECKER.with("(m ((_ a ..) (q ((_ a) ..))))"), "(m 1 2)", "(q ((_ 1) (_ 2)))");
    }

    private static void setsOfRulesMadeByRules() {
        CHECKER.sentence("No two variables have the same name and set");
        String alike = "(m ((_ a b) (ls (k ((_ a b) (b a))) (k 1 2))))";
        CHECKER.fails(CHECKER.with(alike), "(m x x)", -3000);
        CHECKER.makes(CHECKER.with(alike), "(m x y)", "(2 1)");
        CHECKER.makes(CHECKER.with("(m ((_ a) (ls (k ((_ a x) (x a))) (k 1 2))))"), "(m x)", "(2 1)");
        CHECKER.sentence("a name with the name and set of a variable is a USE");
        MarkedNames names = CHECKER.with("(m ((_ a) (ls (k ((_ a) (q (a x)))) (k 1))))");
        CHECKER.makes(names, "(m x)", "(q (1 x))");
        CHECKER.makes(names, "(m y)", "(q (1 x))");
        MarkedNames both = CHECKER.with("(m ((_ p t) (ls (k (p t)) (k 1 2))))");
        CHECKER.makes(both, "(m (_ a ..) (q (a ..)))", "(q (1 2))");
        CHECKER.fails(both, "(m (_ a ..) (q a))", -3000);
        CHECKER.counts(both, "1 0 0 7");
        CHECKER.fails(both, "(m (_ a ..) (x ..))", -3000);
        CHECKER.fails(both, "(m (_ .. a) 1)", -3000);
        CHECKER.fails(both, "(m (_ a a) 1)", -3000);
        CHECKER.fails(both, "(m () 1)", -3000);
        CHECKER.fails(both, "(m 1 1)", -3000);
    }
}
