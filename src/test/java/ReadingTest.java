/** Promises 3 and 4: where a text is faulty, for rules() and expand(..) alike. */
public final class ReadingTest {
    private static final Checker CHECKER = new Checker();

    public static void main(String[] args) {
        tokens();
        dots();
        brackets();
        CHECKER.end();
    }

    private static void tokens() {
        CHECKER.faulty("", 0);
        CHECKER.faulty("   ", 3);
        CHECKER.faulty("abcd", 0);
        CHECKER.faulty("(q abcd)", 3);
        CHECKER.faulty("07", 0);
        CHECKER.faulty("00", 0);
        CHECKER.faulty("(1 100)", 3);
        CHECKER.faulty("A", 0);
        CHECKER.faulty("(a B)", 3);
        CHECKER.faulty("-", 0);
        CHECKER.faulty("~", 0);
        CHECKER.faulty("1 2", 2);
        CHECKER.faulty("1abcd", 1);
        CHECKER.faulty("a)", 1);
        CHECKER.makes("  0  ", "0");
        CHECKER.makes("99", "99");
        CHECKER.makes("(q(ab1c_+*=<10))", "(q (ab 1 c _ + * = < 10))");
        CHECKER.makes("(  +  1(  2 ) )", "(+ 1 (2))");
    }

    private static void dots() {
        CHECKER.faulty("..", 0);
        CHECKER.faulty("a ..", 2);
        CHECKER.faulty("(..)", 1);
        CHECKER.faulty("(( ..))", 3);
        CHECKER.faulty("(a .. ..)", 6);
        CHECKER.faulty("(a ....)", 5);
        CHECKER.faulty("(a ...)", 5);
        CHECKER.faulty("(a . b)", 3);
        CHECKER.faulty("(a .", 3);
        CHECKER.faulty("(a ..", 5);
        CHECKER.faulty("(a) ..", 4);
        CHECKER.makes("(q (a ..b .. (c) ..))", "(q (a .. b .. (c) ..))");
    }

    private static void brackets() {
        CHECKER.faulty(")", 0);
        CHECKER.faulty("(a", 2);
        CHECKER.faulty("(a  ", 4);
        CHECKER.faulty("(a))", 3);
        CHECKER.faulty("()()", 2);
        CHECKER.faulty("(((((((((1)))))))))", 8);
        CHECKER.faulty("((((((((", 8);
        CHECKER.faulty("(1 (((((((1))))))) ((((((((1)))))))))", 26);
        CHECKER.makes("((((((((1))))))))", "((((((((1))))))))");
    }
}
