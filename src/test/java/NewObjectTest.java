/** Promise 1: a new object has no rules of its own; nothing is typed or made. */
public final class NewObjectTest {
    public static void main(String[] args) {
        Checker checker = new Checker();
        MarkedNames names = new MarkedNames();
        checker.same("at(0)", names.at(0), -1);
        for (int what = 0; what < 4; what++) {
            checker.same("count(" + what + ")", names.count(what), 0);
        }
        checker.same("expand(8), nothing typed", names.expand(8), -1);
        checker.same("rules(), nothing typed", new MarkedNames().rules(), -1);
        checker.gives(new MarkedNames(), "(m)", 1);

        MarkedNames one = new MarkedNames();
        MarkedNames other = new MarkedNames();
        checker.gives(one, "(m ((_) 1))", 1);
        Checker.typeText(one, "(m");
        checker.fails(other, "(m)", -1000);
        Checker.typeText(one, ")");
        checker.same("what the first object has typed", one.expand(8), 1);
        checker.same("what the other one has made", other.at(0), -1);
        checker.end();
    }
}
