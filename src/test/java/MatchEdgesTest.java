/** The edges of matching and filling (promise 4): each sentence inside, on and beyond its edge. */
public final class MatchEdgesTest {
    private static final Checker CHECKER = new Checker();

    public static void main(String[] args) {
        anyTree();
        sameNumber();
        asManyTrees();
        anyNumberMore();
        eachRoundMatches();
        roundsInRounds();
        firstPlace();
        firstRuleThatMatches();
        roundsThatFit();
        innerRoundsThatFit();
        firstThatMatchesMustFit();
        whatAUseBecomes();
        dotsInTheListItself();
        CHECKER.end();
    }

    private static void matches(String pattern, String... trees) {
        MarkedNames names = CHECKER.with("(m (" + pattern + " 1))");
        for (String tree : trees) {
            CHECKER.makes(names, tree, "1");
        }
    }

    private static void matchesNot(String pattern, String... trees) {
        MarkedNames names = CHECKER.with("(m (" + pattern + " 1))");
        for (String tree : trees) {
            CHECKER.fails(names, tree, -4000);
            CHECKER.counts(names, "1 0 0 7");
        }
    }

    private static void anyTree() {
        CHECKER.sentence("A pattern MATCHES a tree: a variable and _ any tree");
        for (String any : new String[] {"a", "_", "+", "fn"}) {
            matches("(_ " + any + ")", "(m x)", "(m +)", "(m 0)", "(m 99)", "(m _)", "(m ())", "(m (x))", "(m (x ..))",
                "(m ((x ..) .. _))", "(m fn)", "(m m)");
            matchesNot("(_ " + any + ")", "(m)", "(m x x)", "(m x ..)");
        }
    }

    private static void sameNumber() {
        CHECKER.sentence("a number the same number");
        for (int number : new int[] {0, 1, 9, 10, 11, 98, 99}) {
            for (int other = 0; other < 100; other++) {
                MarkedNames names = CHECKER.with("(m ((_ " + number + ") 1))");
                if (other == number) {
                    CHECKER.makes(names, "(m " + other + ")", "1");
                } else if (Math.abs(other - number) < 2 || other % 10 == number || other == 10 * number) {
                    CHECKER.fails(names, "(m " + other + ")", -4000);
                }
            }
        }
        matchesNot("(_ 7)", "(m x)", "(m _)", "(m ())", "(m (7))", "(m)", "(m 7 7)");
        matches("(_ (7))", "(m (7))");
        matchesNot("(_ (7))", "(m 7)", "(m (6))", "(m (8))", "(m (x))");
    }

    private static void asManyTrees() {
        CHECKER.sentence("a list a list without .. that has as many trees, each matching");
        matches("(_ ())", "(m ())");
        matchesNot("(_ ())", "(m x)", "(m 1)", "(m _)", "(m (1))", "(m (()))", "(m () ())");
        matches("(_ (a))", "(m (1))", "(m (()))");
        matchesNot("(_ (a))", "(m ())", "(m (1 2))", "(m 1)", "(m (1 ..))");
        matches("(_ (a b))", "(m (1 2))");
        matchesNot("(_ (a b))", "(m (1))", "(m (1 2 3))", "(m (1 2 ..))", "(m (1 .. 2))", "(m (1 ..))");
        matches("(_ (a 1) (2 b))", "(m (0 1) (2 3))");
        matchesNot("(_ (a 1) (2 b))", "(m (0 1) (1 3))", "(m (0 2) (2 3))", "(m (0 1))", "(m (0 1) (2 3) 1)");
        matches("(_)", "(m)");
        matchesNot("(_)", "(m 1)", "(m ())");
        matches("(_ ((a) ((b) 3)))", "(m ((1) ((2) 3)))");
        matchesNot("(_ ((a) ((b) 3)))", "(m ((1) ((2) 4)))", "(m ((1) (2 3)))", "(m ((1) ((2) 3) 4))");
    }

    private static void anyNumberMore() {
        CHECKER.sentence("with t .. at its end: any number more, also none");
        matches("(_ a ..)", "(m)", "(m 1)", "(m 1 2)", "(m " + "1 ".repeat(50) + ")");
        matches("(_ a b ..)", "(m 1)", "(m 1 2)", "(m 1 2 3)");
        matchesNot("(_ a b ..)", "(m)", "(m 1 ..)");
        matches("(_ a b c ..)", "(m 1 2)", "(m 1 2 3)");
        matchesNot("(_ a b c ..)", "(m)", "(m 1)");
        matches("(_ (a ..))", "(m ())", "(m (1))", "(m (1 2))");
        matchesNot("(_ (a ..))", "(m)", "(m 1)", "(m () ())", "(m (1 ..))", "(m x)");
        matches("(_ (a b ..) c)", "(m (1) 2)", "(m (1 2) 3)");
        matchesNot("(_ (a b ..) c)", "(m () 2)", "(m (1))", "(m (1) 2 3)");
    }

    private static void eachRoundMatches() {
        CHECKER.sentence("each matching t (each is a ROUND)");
        matches("(_ 7 ..)", "(m)", "(m 7)", "(m 7 7 7)");
        matchesNot("(_ 7 ..)", "(m 8)", "(m 8 7 7)", "(m 7 8 7)", "(m 7 7 8)");
        matches("(_ 1 7 ..)", "(m 1)", "(m 1 7)");
        matchesNot("(_ 1 7 ..)", "(m 7)", "(m 1 1)", "(m 7 7)");
        matches("(_ () ..)", "(m)", "(m ())", "(m () ())");
        matchesNot("(_ () ..)", "(m (1))", "(m () (1))", "(m () 1)");
        matches("(_ (a b) ..)", "(m)", "(m (1 2))", "(m (1 2) (3 4))");
        matchesNot("(_ (a b) ..)", "(m (1))", "(m (1 2) (3))", "(m (1 2) (3 4 5))", "(m (1 2) 3)");
    }

    private static void roundsInRounds() {
        matches("(_ (7 ..) ..)", "(m)", "(m ())", "(m () ())", "(m (7))", "(m (7 7) () (7))");
        matchesNot("(_ (7 ..) ..)", "(m 7)", "(m (8))", "(m (7 8))", "(m (7) (7 8))", "(m (7) 7)", "(m () (7) (8))");
        matches("(_ (1 (2 ..) 3) ..)", "(m)", "(m (1 () 3))", "(m (1 (2) 3) (1 (2 2) 3))");
        matchesNot("(_ (1 (2 ..) 3) ..)", "(m (1 () 2))", "(m (1 (3) 3))", "(m (1 () 3) (1 (2)))", "(m (1 () 3) (1 (2 2) 4))");
        matches("(_ (1 2 ..) .. )", "(m (1) (1 2) (1 2 2))");
        matchesNot("(_ (1 2 ..) .. )", "(m (1) ())", "(m (1 2) (2))");
    }

    private static void firstPlace() {
        CHECKER.sentence("In the first list's place the tree counts for nothing, too.");
        for (String first : new String[] {"_", "x", "7", "()", "(1 2)", "(x ..)", "m"}) {
            matches("(" + first + " 5)", "(m 5)");
            matchesNot("(" + first + " 5)", "(m 6)", "(m)", "(m 5 5)");
        }
        // Only the whole pattern's first tree counts for nothing, not that of a list in it.
        matches("(_ (7 a))", "(m (7 1))");
        matchesNot("(_ (7 a))", "(m (8 1))", "(m (x 1))");
    }

    private static void firstRuleThatMatches() {
        CHECKER.sentence("the first rule whose pattern matches it is filled");
        MarkedNames names = CHECKER.with("(m ((_ 1) 10) ((_ a) 20) ((_ 2) 30) ((_ a b) 40) ((_ b ..) 50))");
        CHECKER.makes(names, "(m 1)", "10");
        CHECKER.makes(names, "(m 2)", "20");
        CHECKER.makes(names, "(m 1 1)", "40");
        CHECKER.makes(names, "(m)", "50");
        CHECKER.makes(names, "(m 1 1 1)", "50");
        CHECKER.sentence("error 4, if none does");
        CHECKER.fails(CHECKER.with("(m)"), "(m)", -4000);
        CHECKER.fails(CHECKER.with("(m ((_ 1) 1))"), "(m)", -4000);
        CHECKER.fails(CHECKER.with("(m ((_ 1) 1) ((_ 2) 1))"), "(m 3)", -4000);
    }

    private static void roundsThatFit() {
        CHECKER.sentence("as many t as rounds, which must be the same for all uses held in t (else it does not fit)");
        MarkedNames names = CHECKER.with("(z ((_ (a ..) (b ..)) (q ((a b) ..))))", "(s ((_ (a ..) (b ..)) (q (a .. b ..))))",
            "(t ((_ (a ..) (b ..) (c ..)) (q ((a b c) ..))))");
        String[] lists = {"()", "(1)", "(1 1)", "(1 1 1)"};
        String[] pairs = {"", "(1 1)", "(1 1) (1 1)", "(1 1) (1 1) (1 1)"};
        String[] triples = {"", "(1 1 1)", "(1 1 1) (1 1 1)", "(1 1 1) (1 1 1) (1 1 1)"};
        for (int a = 0; a < 4; a++) {
            for (int b = 0; b < 4; b++) {
                String both = lists[a] + " " + lists[b];
                fits(names, "(z " + both + ")", a == b, "(q (" + pairs[a] + "))");
                CHECKER.makes(names, "(s " + both + ")", "(q (" + "1 ".repeat(a + b).trim() + "))");
                for (int c = 0; c < 4; c++) {
                    fits(names, "(t " + both + " " + lists[c] + ")", a == b && b == c, "(q (" + triples[a] + "))");
                }
            }
        }
    }

    private static void fits(MarkedNames names, String text, boolean due, String made) {
        if (due) {
            CHECKER.makes(names, text, made);
        } else {
            CHECKER.fails(names, text, -4000);
        }
    }

    private static void innerRoundsThatFit() {
        CHECKER.sentence("in the present round of each .. that holds it");
        MarkedNames names = CHECKER.with("(t ((_ ((a ..) ..) ((b ..) ..)) (q (((a b) ..) ..))))",
            "(u ((_ ((a ..) ..) (b ..)) (q ((b (a ..)) ..))))", "(v ((_ (a b ..) ..) (q ((a (b ..) b ..) .. (a ..)))))");
        CHECKER.makes(names, "(t () ())", "(q ())");
        CHECKER.makes(names, "(t (()) (()))", "(q (()))");
        CHECKER.makes(names, "(t ((1)) ((2)))", "(q (((1 2))))");
        CHECKER.makes(names, "(t ((1 2) () (3)) ((4 5) () (6)))", "(q (((1 4) (2 5)) () ((3 6))))");
        CHECKER.fails(names, "(t (()) ())", -4000);
        CHECKER.fails(names, "(t () (()))", -4000);
        CHECKER.fails(names, "(t ((1)) (()))", -4000);
        CHECKER.fails(names, "(t ((1) (1)) ((1) (1 1)))", -4000);
        CHECKER.fails(names, "(t ((1 1) (1)) ((1) (1)))", -4000);
        CHECKER.makes(names, "(u ((1 2) ()) (3 4))", "(q ((3 (1 2)) (4 ())))");
        CHECKER.fails(names, "(u ((1 2)) (3 4))", -4000);
        CHECKER.makes(names, "(v (1) (2 3) (4 5 6))", "(q ((1 ()) (2 (3) 3) (4 (5 6) 5 6) (1 2 4)))");
    }

    private static void firstThatMatchesMustFit() {
        CHECKER.sentence("the first rule whose pattern matches it is filled (error 4, if .. it does not fit)");
        MarkedNames names = CHECKER.with("(m ((_ (a ..) (b ..)) (q ((a b) ..))) ((_ a b) 5))");
        CHECKER.makes(names, "(m (1) (2))", "(q ((1 2)))");
        CHECKER.fails(names, "(m (1) ())", -4000);
        CHECKER.counts(names, "1 0 0 7");
        CHECKER.makes(names, "(m (1) 2)", "5");
    }

    private static void whatAUseBecomes() {
        CHECKER.sentence("a use becomes what its variable matched; the rest stays, with its names' sets");
        MarkedNames names = CHECKER.with("(m ((_ a) (q a)))", "(f ((_ a) (fn (x) (a x))))");
        for (String tree : new String[] {"x", "0", "_", "()", "(x ..)", "(_ (1 ..) .. ())", "((((1))))"}) {
            CHECKER.makes(names, "(m " + tree + ")", "(q " + tree + ")");
        }
        CHECKER.makes(names, "(fn (x) (f x))", "(fn (v0) (fn (v1) (v0 v1)))");
        CHECKER.makes(names, "(f +)", "(fn (v0) (+ v0))");
    }

    private static void dotsInTheListItself() {
        CHECKER.sentence("a list a list without ..");
        MarkedNames names = CHECKER.with("(m ((_ a ..) 1) ((_) 2) ((_ a) 3) ((_ a b) 4))");
        for (String text : new String[] {"(m ..)", "(m .. 1)", "(m 1 ..)", "(m 1 .. 2)", "(m 1 2 ..)"}) {
            CHECKER.fails(names, text, -4000);
            CHECKER.counts(names, "1 0 0 7");
        }
        CHECKER.makes(names, "(m (1 ..))", "1");
    }
}
