/** The edges that the document names for texts (promises 3 and 4): each sentence inside, on and beyond its edge. */
public final class TextEdgesTest {
    private static final Checker CHECKER = new Checker();

    public static void main(String[] args) {
        everyCharacterAlone();
        everyCharacterInABracket();
        namesOfOneToThreeLetters();
        numbersOfOneOrTwoDigits();
        twoDots();
        spacesBetweenTokens();
        rowsAreOneToken();
        anyNumberOfTrees();
        placesOfDots();
        sevenBracketsAround();
        oneTree();
        tokenAtItsFirstCharacter();
        endAtItsLength();
        readFromTheLeft();
        CHECKER.end();
    }

    private static void everyCharacterAlone() {
        CHECKER.sentence("TOKENS: ( and ); a NAME: 1 .. 3 letters a .. z, or one of + * = <; a NUMBER ..; .. and _");
        for (char c = 32; c <= 126; c++) {
            String text = String.valueOf(c);
            if (c >= '0' && c <= '9' || "+*=<".indexOf(c) >= 0) {
                CHECKER.makes(text, text);
            } else if (c >= 'a' && c <= 'z' && c != 'q') {
                CHECKER.fails(text, -1000);
            } else if (c == 'q' || c == '_') {
                CHECKER.fails(text, -3000);
            } else {
                CHECKER.faulty(text, c == '(' || c == ' ' ? 1 : 0);
            }
        }
    }

    private static void everyCharacterInABracket() {
        for (char c = 32; c <= 126; c++) {
            String text = "(q (1" + c + "))";
            if (c >= 'a' && c <= 'z' || "+*=<_".indexOf(c) >= 0) {
                CHECKER.makes(text, "(q (1 " + c + "))");
            } else if (c >= '0' && c <= '9') {
                CHECKER.makes(text, text);
            } else if (c == ' ') {
                CHECKER.makes(text, "(q (1))");
            } else {
                CHECKER.faulty(text, c == '(' ? 8 : c == ')' ? 7 : 5);
            }
        }
    }

    private static void namesOfOneToThreeLetters() {
        CHECKER.sentence("a NAME: 1 .. 3 letters a .. z, or one of + * = <");
        for (String name : new String[] {"a", "z", "az", "za", "aaa", "zzz", "+", "*", "=", "<"}) {
            CHECKER.makes("(q " + name + ")", "(q " + name + ")");
        }
        for (String none : new String[] {"aaaa", "zzzz", "abcde", "a".repeat(100), "aA", "a`", "a{"}) {
            CHECKER.faulty("(q " + none + ")", none.startsWith("a") && none.length() == 2 ? 4 : 3);
        }
        CHECKER.makes("(q (++ +* <==))", "(q (+ + + * < = =))");
    }

    private static void numbersOfOneOrTwoDigits() {
        CHECKER.sentence("a NUMBER: 0, or one or two digits the first of which is not 0");
        for (int number = 0; number < 100; number++) {
            CHECKER.makes(Integer.toString(number), Integer.toString(number));
        }
        for (int last = 0; last < 10; last++) {
            CHECKER.faulty("0" + last, 0);
        }
        for (String none : new String[] {"100", "999", "000", "010", "1000", "2147483648", "1".repeat(120)}) {
            CHECKER.faulty(none, 0);
        }
        CHECKER.faulty("-1", 0);
    }

    private static void twoDots() {
        CHECKER.sentence(".. and _");
        CHECKER.makes("(q (a ..))", "(q (a ..))");
        CHECKER.makes("(q (a..))", "(q (a ..))");
        CHECKER.makes("(q (_..))", "(q (_ ..))");
        CHECKER.makes("(q (__))", "(q (_ _))");
        CHECKER.faulty("(q (a .))", 6);
        CHECKER.faulty("(q (a . .))", 6);
        CHECKER.faulty("(q (a ...))", 8);
        CHECKER.faulty("(q (a ....))", 8);
    }

    private static void spacesBetweenTokens() {
        CHECKER.sentence("Spaces may stand between tokens");
        CHECKER.makes("(+(1 2)3)", "(+ (1 2) 3)");
        CHECKER.makes("( + ( 1 2 ) 3 )", "(+ (1 2) 3)");
        CHECKER.makes("(" + " ".repeat(100) + "+" + " ".repeat(17) + ")", "(+)");
        CHECKER.makes(" 1 ", "1");
        CHECKER.makes(" ".repeat(119) + "1", "1");
        CHECKER.makes("1" + " ".repeat(119), "1");
    }

    private static void rowsAreOneToken() {
        CHECKER.sentence("a row of letters, or of digits, is one token");
        CHECKER.makes("(q (abc def))", "(q (abc def))");
        CHECKER.faulty("(q (abcdef))", 4);
        CHECKER.makes("(q (12 34))", "(q (12 34))");
        CHECKER.faulty("(q (1234))", 4);
        CHECKER.makes("(q (abc12def34))", "(q (abc 12 def 34))");
        CHECKER.faulty("(q (abc123))", 7);
        CHECKER.faulty("(q (12abcd))", 6);
        CHECKER.makes("(q (0 0))", "(q (0 0))");
        CHECKER.faulty("(q (0 00))", 6);
    }

    private static void anyNumberOfTrees() {
        CHECKER.sentence("( trees ) with any number of trees");
        CHECKER.makes("(q ())", "(q ())");
        CHECKER.makes("(q (_))", "(q (_))");
        CHECKER.makes("(q (_ _))", "(q (_ _))");
        CHECKER.fails("(" + "_".repeat(117) + ")", -3000);
        CHECKER.fails("(" + "_".repeat(118) + ")", -3000);
        CHECKER.makes("(q (()()()))", "(q (() () ()))");
        CHECKER.fails("(" + "()".repeat(59) + ")", -3000);
    }

    private static void placesOfDots() {
        CHECKER.sentence("no .. stands first in a bracket, behind another .., or outside of all");
        CHECKER.faulty("(q (.. a))", 4);
        CHECKER.faulty("(..)", 1);
        CHECKER.faulty("(1 (2 ( ..", 8);
        for (String held : new String[] {"a", "7", "_", "()", "(a)", "(a ..)"}) {
            CHECKER.makes("(q (" + held + " ..))", "(q (" + held + " ..))");
            CHECKER.makes("(q (" + held + " .. " + held + " .. 1))", "(q (" + held + " .. " + held + " .. 1))");
            CHECKER.faulty("(q (" + held + " .. ..))", 8 + held.length());
            CHECKER.faulty(held + " ..", 1 + held.length());
        }
        CHECKER.faulty("..", 0);
        CHECKER.faulty(".. 1", 0);
        CHECKER.faulty("(a) ..", 4);
    }

    private static void sevenBracketsAround() {
        CHECKER.sentence("No bracket is in more than seven others.");
        CHECKER.makes("(((((((1)))))))", "(((((((1)))))))");
        CHECKER.makes("((((((((1))))))))", "((((((((1))))))))");
        CHECKER.faulty("(((((((((1)))))))))", 8);
        CHECKER.faulty("(".repeat(120), 8);
        CHECKER.makes("(1(1(1(1(1(1(1(1)(1))(1)))))))", "(1 (1 (1 (1 (1 (1 (1 (1) (1)) (1)))))))");
        CHECKER.faulty("(1(1(1(1(1(1(1(1)(1(1)))))))))", 19);
        CHECKER.fails("(((((((())))))))", -3000);
        CHECKER.faulty("((((((((()))))))))", 8);
        CHECKER.makes("(q(((((((1))))))))", "(q (((((((1))))))))");
        CHECKER.faulty("(q((((((((1)))))))))", 9);
    }

    private static void oneTree() {
        CHECKER.sentence("A text is one tree");
        CHECKER.faulty("", 0);
        for (String tree : new String[] {"1", "10", "+", "(1)", "(+ (1))"}) {
            CHECKER.makes(tree, tree);
            for (String more : new String[] {"1", "+", "_", "(", "()", ")", "..", "abcd", "100", "?"}) {
                CHECKER.faulty(tree + " " + more, tree.length() + 1);
            }
        }
        CHECKER.faulty("1+", 1);
        CHECKER.faulty("(1)(", 3);
    }

    private static void tokenAtItsFirstCharacter() {
        CHECKER.sentence("a token at its first character");
        CHECKER.faulty("(1   abcd)", 5);
        CHECKER.faulty("(1   100)", 5);
        CHECKER.faulty("(1   09)", 5);
        CHECKER.faulty("(1   ..  ..)", 9);
        CHECKER.faulty("(1   .)", 5);
        CHECKER.faulty("(1   .", 5);
    }

    private static void endAtItsLength() {
        CHECKER.sentence("the end at its length");
        CHECKER.faulty("(", 1);
        CHECKER.faulty("(1", 2);
        CHECKER.faulty("(1 ", 3);
        CHECKER.faulty("(1 ..", 5);
        CHECKER.faulty("((1)", 4);
        CHECKER.faulty("((((((((1)))))))", 16);
        CHECKER.faulty(" ", 1);
        CHECKER.faulty(" ".repeat(119), 119);
        CHECKER.faulty(" ".repeat(120), 120);
        CHECKER.faulty("(1" + " ".repeat(118), 120);
        CHECKER.faulty("(" + "_".repeat(119), 120);
        CHECKER.faulty("(" + "_".repeat(118) + "?", 119);
    }

    private static void readFromTheLeft() {
        CHECKER.sentence("it is faulty at the first character that cannot be as it is, read from the left");
        CHECKER.faulty("(abcd 100", 1);
        CHECKER.faulty("(100 abcd", 1);
        CHECKER.faulty("(1 .. .. abcd)))", 6);
        CHECKER.faulty("(1)) ?", 3);
        CHECKER.faulty("(1 ? (", 3);
        CHECKER.faulty("(((((((( ? (", 9);
        CHECKER.faulty("(((((((( ( ?", 9);
    }
}
