/** The example that README.md shows; ReadmeTest holds the two together. */
public final class Example {
    public static void main(String[] args) {
        MarkedNames names = new MarkedNames();
        type(names, "(or ((_ a b) ((fn (t) (if t t b)) a)))");
        System.out.println("names with rules: " + names.rules());
        type(names, "(fn (t) (or (= 1 2) t))");
        System.out.println("length: " + names.expand(8));
        System.out.println("text: " + made(names));
        System.out.println("scopes: " + names.count(0));
        System.out.println("bindings: " + names.count(1));
        System.out.println("variables: " + names.count(2));
        System.out.println("fuel left: " + names.count(3));
        type(names, "(or 1)");
        System.out.println("no rule matches: " + names.expand(8));
    }

    private static void type(MarkedNames names, String text) {
        for (int i = 0; i < text.length(); i++) {
            names.type(text.charAt(i), 1);
        }
    }

    private static String made(MarkedNames names) {
        StringBuilder text = new StringBuilder();
        for (int i = 0; names.at(i) >= 0; i++) {
            text.append((char) names.at(i));
        }
        return text.toString();
    }
}
