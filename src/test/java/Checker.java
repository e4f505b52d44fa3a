/** What the project's tests share: typing texts, reading what was made, and telling what is not as due. */
final class Checker {
    private int wrong = 0;
    private int checked = 0;
    private String sentence = "";

    /** The document's words that the next answers are due by; they are told with what is wrong. */
    void sentence(String words) {
        sentence = "\"" + words + "\": ";
    }

    void same(String what, Object got, Object due) {
        checked++;
        if (!due.equals(got)) {
            wrong++;
            System.out.println(sentence + what + " answered " + got + ", due is " + due);
        }
    }

    /** Types the text; false if a piece of it was refused. */
    static boolean typeText(MarkedNames names, String text) {
        boolean taken = true;
        for (int from = 0; from < text.length(); from += 4) {
            int to = Math.min(from + 4, text.length());
            int word = 0;
            for (int k = from; k < to; k++) {
                word = word << 8 | text.charAt(k);
            }
            taken &= names.type(word, to - from);
        }
        return taken;
    }

    static String made(MarkedNames names) {
        StringBuilder text = new StringBuilder();
        for (int i = 0; names.at(i) >= 0; i++) {
            text.append((char) names.at(i));
        }
        return text.toString();
    }

    static String counts(MarkedNames names) {
        return names.count(0) + " " + names.count(1) + " " + names.count(2) + " " + names.count(3);
    }

    void gives(MarkedNames names, String rules, int due) {
        same("typing " + rules, typeText(names, rules), true);
        same("rules() of " + rules, names.rules(), due);
    }

    void makes(MarkedNames names, String text, String due) {
        same("typing " + text, typeText(names, text), true);
        same("expand(8) of " + text, names.expand(8), due.length());
        same("the text made of " + text, made(names), due);
    }

    void fails(MarkedNames names, String text, int due) {
        same("typing " + text, typeText(names, text), true);
        same("expand(8) of " + text, names.expand(8), due);
        same("at(0) after " + text, names.at(0), -1);
    }

    /** For texts that need no rules of the object's own. */
    void makes(String text, String due) {
        makes(new MarkedNames(), text, due);
    }

    void fails(String text, int due) {
        fails(new MarkedNames(), text, due);
    }

    /** A text that cannot be read, neither as a program nor as rules. */
    void faulty(String text, int place) {
        fails(text, -1 - place);
        gives(new MarkedNames(), text, -1 - place);
    }

    /** Rules that are as told, given to an object and in ls; without the name before them. */
    void asTold(String rules) {
        gives(new MarkedNames(), "(m " + rules + ")", 1);
        makes("(ls (m " + rules + ") 1)", "1");
    }

    void notAsTold(String rules) {
        gives(new MarkedNames(), "(m " + rules + ")", -1000);
        fails("(ls (m " + rules + ") 1)", -3000);
    }

    /** A new object that has been given these rules. */
    MarkedNames with(String... rules) {
        MarkedNames names = new MarkedNames();
        for (int k = 0; k < rules.length; k++) {
            gives(names, rules[k], k + 1);
        }
        return names;
    }

    void counts(MarkedNames names, String due) {
        same("scopes, bindings, variables, fuel left", counts(names), due);
    }

    void end() {
        System.out.println(checked + " answers looked at, " + wrong + " not as due");
        if (wrong != 0 || checked == 0) {
            System.exit(1);
        }
    }
}
