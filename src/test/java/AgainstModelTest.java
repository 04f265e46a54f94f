/** Long mixed runs of calls, the same on the program and on the slow model; every answer is compared. */
public final class AgainstModelTest {
    private static final int RUNS = 200;
    private static final int WHOLE_RELATIONS = 120;
    /** The document promises nothing after this many calls of one object. */
    private static final int MOST_CALLS = 512;
    private static final Check check = new Check("AgainstModelTest");
    private static long state = 20261115L;

    public static void main(String[] args) {
        for (int run = 0; run < RUNS; run++) {
            mixedRun(run);
        }
        for (int n = 0; n < WHOLE_RELATIONS; n++) {
            wholeRelation(expression());
        }
        check.end();
    }

    /** The same numbers on every machine and in every run, so that a failure can be seen again. */
    private static int below(int bound) {
        state = state * 6364136223846793005L + 1442695040888963407L;
        return (int) ((state >>> 33) % bound);
    }

    private static int oneOf(int... choices) {
        return choices[below(choices.length)];
    }

    private static void mixedRun(int run) {
        PairExpressions x = new PairExpressions();
        Model model = new Model();
        // Some runs rarely empty the stack, so that the limits are met.
        int emptyings = run % 3 == 0 ? 1 : 4;
        for (int call = 0; call < MOST_CALLS; call++) {
            String told = "run " + run + " call " + call + ": ";
            int kind = below(100);
            if (kind < 50) {
                makingCall(told, x, model);
            } else if (kind < 50 + emptyings) {
                check.due(told + "define()", x.define(), model.define());
            } else if (kind == 60) {
                x.discard();
                model.discard();
            } else {
                question(told, x, model);
            }
        }
    }

    private static void makingCall(String told, PairExpressions x, Model model) {
        switch (below(9)) {
            case 0 -> check.due(told + "cat()", x.cat(), model.cat());
            case 1 -> check.due(told + "alt()", x.alt(), model.alt());
            case 2 -> check.due(told + "star()", x.star(), model.star());
            case 3 -> check.due(told + "turn()", x.turn(), model.turn());
            case 4 -> check.due(told + "steps()", x.steps(), model.steps());
            case 5 -> check.due(told + "depth()", x.depth(), model.depth());
            default -> {
                int a = below(20) == 0 ? oneOf(-1, 3, Integer.MIN_VALUE, Integer.MAX_VALUE) : below(3);
                int b = below(20) == 0 ? oneOf(-1, 3, Integer.MIN_VALUE, Integer.MAX_VALUE) : below(3);
                check.due(told + "pair(" + a + ", " + b + ")", x.pair(a, b), model.pair(a, b));
            }
        }
    }

    private static int someLength() {
        return below(12) == 0 ? oneOf(-1, 5, 31, 32, Integer.MIN_VALUE, Integer.MAX_VALUE) : below(5);
    }

    private static int someBits(int len) {
        boolean inRange = len >= 0 && len <= 4 && below(12) != 0;
        return inRange ? below(1 << len) : oneOf(-1, 0, 1, 2, 4, 8, 16, Integer.MIN_VALUE, Integer.MAX_VALUE);
    }

    private static void question(String told, PairExpressions x, Model model) {
        int len = someLength();
        int bits = someBits(len);
        String word = len + ", " + bits;
        switch (below(9)) {
            case 0 -> check.due(told + "pairs()", x.pairs(), model.pairs());
            case 1 -> check.due(told + "domain()", x.domain(), model.domain());
            case 2 -> check.due(told + "manyValued()", x.manyValued(), model.manyValued());
            case 3 -> check.due(told + "fixed()", x.fixed(), model.fixed());
            case 4 -> check.due(told + "twoSteps()", x.twoSteps(), model.twoSteps());
            case 5 -> check.due(told + "images(" + word + ")", x.images(len, bits), model.images(len, bits));
            case 6 -> check.due(told + "sources(" + word + ")", x.sources(len, bits), model.sources(len, bits));
            case 7 -> {
                int k = below(20) == 0 ? oneOf(31, 32, Integer.MIN_VALUE, Integer.MAX_VALUE) : below(12) - 1;
                check.due(told + "image(" + word + ", " + k + ")", x.image(len, bits, k), model.image(len, bits, k));
            }
            default -> {
                int lenV = someLength();
                int bitsV = someBits(lenV);
                check.due(told + "related(" + word + ", " + lenV + ", " + bitsV + ")",
                    x.related(len, bits, lenV, bitsV), model.related(len, bits, lenV, bitsV));
            }
        }
    }

    /** A text for Check.build with up to 9 pairs and at most 18 steps that leaves one expression. */
    private static String expression() {
        int pairs = 1 + below(9);
        int spare = 18 - (2 * pairs - 1);
        int depth = 0;
        StringBuilder text = new StringBuilder();
        while (pairs > 0 || depth > 1) {
            if (pairs > 0 && depth < 6 && (depth < 2 || below(2) == 0)) {
                text.append(below(3)).append(below(3)).append(' ');
                pairs--;
                depth++;
            } else {
                text.append(below(2) == 0 ? ". " : "| ");
                depth--;
            }
            if (spare > 0 && below(3) == 0) {
                text.append(below(3) == 0 ? "~ " : "* ");
                spare--;
            }
        }
        return text.toString();
    }

    private static void wholeRelation(String text) {
        Model model = modelOf(text);
        PairExpressions x = Check.defined(text);
        check.due(text + "= pairs()", x.pairs(), model.pairs());
        check.due(text + "= domain()", x.domain(), model.domain());
        check.due(text + "= manyValued()", x.manyValued(), model.manyValued());
        check.due(text + "= fixed()", x.fixed(), model.fixed());
        check.due(text + "= twoSteps()", x.twoSteps(), model.twoSteps());
        for (String u : Model.SHORT_WORDS) {
            int len = u.length();
            int bits = Check.bits(u);
            // A new object for each word keeps every object below its greatest number of calls.
            PairExpressions fresh = Check.defined(text);
            check.due(text + "= images of " + u, fresh.images(len, bits), model.images(len, bits));
            check.due(text + "= sources of " + u, fresh.sources(len, bits), model.sources(len, bits));
            for (int k = 0; k <= 31; k++) {
                check.due(text + "= image " + k + " of " + u, fresh.image(len, bits, k), model.image(len, bits, k));
            }
            for (String v : Model.SHORT_WORDS) {
                check.due(text + "= related " + u + " " + v, Check.related(fresh, u, v),
                    model.related(len, bits, v.length(), Check.bits(v)));
            }
        }
    }

    private static Model modelOf(String text) {
        Model model = new Model();
        for (String call : text.trim().split(" +")) {
            switch (call) {
                case "." -> model.cat();
                case "|" -> model.alt();
                case "*" -> model.star();
                case "~" -> model.turn();
                default -> model.pair(call.charAt(0) - '0', call.charAt(1) - '0');
            }
        }
        model.define();
        return model;
    }
}
