/** Promise 2: type. */
public final class TypeTest {
    private static final Checker CHECKER = new Checker();

    public static void main(String[] args) {
        order();
        refusals();
        limit();
        CHECKER.end();
    }

    private static void order() {
        MarkedNames names = new MarkedNames();
        CHECKER.same("type of (q", names.type('(' << 8 | 'q', 2), true);
        CHECKER.same("type of one space under other bytes", names.type(0x01FF0020, 1), true);
        CHECKER.same("type of abc", names.type('a' << 16 | 'b' << 8 | 'c', 3), true);
        CHECKER.same("type of four", names.type(')' << 24 | ' ' << 16 | ' ' << 8 | ' ', 4), true);
        CHECKER.same("expand(0)", names.expand(0), 7);
        CHECKER.same("the text", Checker.made(names), "(q abc)");
    }

    private static void refusals() {
        MarkedNames names = new MarkedNames();
        Checker.typeText(names, "7");
        int ones = 0x31313131;
        for (int n : new int[] {0, -1, 5, Integer.MAX_VALUE, Integer.MIN_VALUE}) {
            CHECKER.same("type(1111, " + n + ")", names.type(ones, n), false);
        }
        for (int c : new int[] {0, 9, 31, 127, 128, 255}) {
            CHECKER.same("type of character " + c, names.type(c, 1), false);
            CHECKER.same("type of it first", names.type(c << 24 | 0x313131, 4), false);
            CHECKER.same("type of it last", names.type(0x3100 | c, 2), false);
        }
        CHECKER.same("type(-1, 4)", names.type(-1, 4), false);
        CHECKER.same("expand(8) of what was there", names.expand(8), 1);
        CHECKER.same("its text", Checker.made(names), "7");
        CHECKER.same("type(32, 1)", names.type(32, 1), true);
        CHECKER.same("type(126, 1)", names.type(126, 1), true);
        CHECKER.same("~ is no token", names.expand(8), -2);
    }

    private static void limit() {
        MarkedNames names = new MarkedNames();
        CHECKER.same("typing 118", Checker.typeText(names, "1" + " ".repeat(117)), true);
        CHECKER.same("three more", names.type(0x202020, 3), false);
        CHECKER.same("two more", names.type(0x2020, 2), true);
        CHECKER.same("one more", names.type(0x20, 1), false);
        CHECKER.same("expand(8)", names.expand(8), 1);
        CHECKER.same("typing 120 anew", Checker.typeText(names, " ".repeat(119) + "x"), true);
        CHECKER.same("rules() of a name alone", names.rules(), -1000);
    }
}
