/** Promises 3 and 4: where a text is faulty, for rules() and expand(..) alike. */
public final class ReadingTest {
    private static final Checker CHECKER = new Checker();

    public static void main(String[] args) {
        tokens();
        dots();
        brackets();
        CHECKER.end();
    }

    private static void faulty(String text, int place) {
        CHECKER.fails(text, -1 - place);
        CHECKER.gives(new MarkedNames(), text, -1 - place);
    }

    private static void tokens() {
        faulty("", 0);
        faulty("   ", 3);
        faulty("abcd", 0);
        faulty("(q abcd)", 3);
        faulty("07", 0);
        faulty("00", 0);
        faulty("(1 100)", 3);
        faulty("A", 0);
        faulty("(a B)", 3);
        faulty("-", 0);
        faulty("~", 0);
        faulty("1 2", 2);
        faulty("1abcd", 1);
        faulty("a)", 1);
        CHECKER.makes("  0  ", "0");
        CHECKER.makes("99", "99");
        CHECKER.makes("(q(ab1c_+*=<10))", "(q (ab 1 c _ + * = < 10))");
        CHECKER.makes("(  +  1(  2 ) )", "(+ 1 (2))");
    }

    private static void dots() {
        faulty("..", 0);
        faulty("a ..", 2);
        faulty("(..)", 1);
        faulty("(( ..))", 3);
        faulty("(a .. ..)", 6);
        faulty("(a ....)", 5);
        faulty("(a ...)", 5);
        faulty("(a . b)", 3);
        faulty("(a .", 3);
        faulty("(a ..", 5);
        faulty("(a) ..", 4);
        CHECKER.makes("(q (a ..b .. (c) ..))", "(q (a .. b .. (c) ..))");
    }

    private static void brackets() {
        faulty(")", 0);
        faulty("(a", 2);
        faulty("(a  ", 4);
        faulty("(a))", 3);
        faulty("()()", 2);
        faulty("(((((((((1)))))))))", 8);
        faulty("((((((((", 8);
        faulty("(1 (((((((1))))))) ((((((((1)))))))))", 26);
        CHECKER.makes("((((((((1))))))))", "((((((((1))))))))");
    }
}
