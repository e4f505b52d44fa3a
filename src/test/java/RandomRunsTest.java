import java.util.List;
import java.util.Map;
import java.util.Random;
import java.util.TreeMap;

/** Random runs of calls, each answer held against the model's (all promises). */
public final class RandomRunsTest {
    private static final Checker CHECKER = new Checker();
    private static final String[] RULED = {"m", "k", "w", "z", "or", "fn"};
    private static final Map<Integer, Integer> ANSWERS = new TreeMap<>();

    public static void main(String[] args) {
        int runs = args.length > 0 ? Integer.parseInt(args[0]) : 6000;
        int first = args.length > 1 ? Integer.parseInt(args[1]) : 1;
        for (int seed = first; seed < first + runs; seed++) {
            run(new Random(seed), "seed " + seed + ": ");
        }
        // The test is worth something only while all kinds of answers come up in it.
        for (int answer : new int[] {-1, -1000, -2000, -3000, -4000, -5000, -6000, 1}) {
            CHECKER.same("whether " + answer + " came up", ANSWERS.containsKey(answer), true);
        }
        System.out.println("answers of expand (1 for all texts made, -1 for all faults): " + ANSWERS);
        CHECKER.end();
    }

    private static void run(Random random, String what) {
        MarkedNames names = new MarkedNames();
        Model model = new Model();
        ProgramMaker maker = new ProgramMaker(random);
        for (int k = 0; k < 12; k++) {
            boolean ruling = random.nextInt(3) == 0;
            String text = !ruling ? maker.program(List.of(), 1 + random.nextInt(6))
                : random.nextInt(2) == 0 ? maker.dearRules()
                : maker.namedRules(RULED[random.nextInt(RULED.length)], 1 + random.nextInt(4));
            if (random.nextInt(8) == 0) {
                text = maker.spoiled(text);
            }
            if (text.length() > 120) {
                continue;
            }
            typeBoth(names, model, text, what);
            if (ruling) {
                CHECKER.same(what + "rules() of " + text, names.rules(), model.giveRules());
            } else {
                expandBoth(names, model, text, random.nextInt(10) == 0 ? random.nextInt(11) - 1 : 8, what);
            }
        }
    }

    private static void typeBoth(MarkedNames names, Model model, String text, String what) {
        boolean taken = true;
        for (int from = 0; from < text.length(); from += 4) {
            taken &= model.type(text.substring(from, Math.min(from + 4, text.length())));
        }
        CHECKER.same(what + "typing " + text, Checker.typeText(names, text), taken);
    }

    private static void expandBoth(MarkedNames names, Model model, String text, int fuel, String what) {
        int due = model.expandTyped(fuel);
        String call = what + "expand(" + fuel + ") of " + text;
        CHECKER.same(call, names.expand(fuel), due);
        CHECKER.same(call + ", the text made", Checker.made(names), model.madeText());
        CHECKER.same(call + ", the counts", Checker.counts(names), model.counts());
        ANSWERS.merge(due >= 0 ? 1 : due > -1000 ? -1 : due, 1, Integer::sum);
    }
}
