/** Counts and prints the answers that are not the ones due, and ends the test with exit code 1 if there was one. */
final class Check {
    private final String test;
    private String sentence = "";
    private int askedOfSentence = 0;
    private int sentences = 0;
    private int asked = 0;
    private int wrong = 0;

    Check(String test) {
        this.test = test;
    }

    /** Begins the test of one sentence of the document; it is told with each wrong answer that follows. */
    void sentence(String told) {
        endSentence();
        sentence = told + ": ";
        sentences++;
    }

    private void endSentence() {
        if (sentences > 0 && askedOfSentence == 0) {
            wrong++;
            System.out.println(test + ": " + sentence + "no answer was looked at");
        }
        askedOfSentence = 0;
    }

    void due(String call, long got, long want) {
        due(call, Long.toString(got), Long.toString(want));
    }

    void due(String call, String got, String want) {
        asked++;
        askedOfSentence++;
        if (!got.equals(want)) {
            wrong++;
            System.out.println(test + ": " + sentence + call + " answered " + got + ", due is " + want);
        }
    }

    void due(String call, boolean got, boolean want) {
        due(call, got ? 1 : 0, want ? 1 : 0);
    }

    void end() {
        endSentence();
        String of = sentences == 0 ? "" : " of " + sentences + " sentences";
        System.out.println(test + ": " + asked + " answers" + of + " looked at, " + wrong + " wrong");
        if (wrong != 0 || asked == 0) {
            System.exit(1);
        }
    }

    /**
     * Makes the calls that a text tells, and answers the last call's answer. "01" is pair(0, 1), "." cat,
     * "|" alt, "*" star, "~" turn, "=" define, "!" discard; spaces stand between them.
     */
    static int build(PairExpressions x, String text) {
        int answer = 0;
        for (String call : text.trim().split(" +")) {
            switch (call) {
                case "" -> { }
                case "." -> answer = x.cat();
                case "|" -> answer = x.alt();
                case "*" -> answer = x.star();
                case "~" -> answer = x.turn();
                case "=" -> answer = x.define();
                case "!" -> x.discard();
                default -> answer = x.pair(call.charAt(0) - '0', call.charAt(1) - '0');
            }
        }
        return answer;
    }

    /** A new object on which the calls of the text were made. */
    static PairExpressions built(String text) {
        PairExpressions x = new PairExpressions();
        build(x, text);
        return x;
    }

    /** A new object whose relation in use is that of the text. */
    static PairExpressions defined(String text) {
        return built(text + " =");
    }

    /** steps() and depth() with a space between, so that one line looks at both. */
    static String counts(PairExpressions x) {
        return x.steps() + " " + x.depth();
    }

    /** All that can be asked without a change: the two counts, and each pair of the relation in use. */
    static String seen(PairExpressions x) {
        StringBuilder told = new StringBuilder(counts(x));
        for (int len = 0; len <= 4; len++) {
            for (int bits = 0; bits < 1 << len; bits++) {
                int images = x.images(len, bits);
                for (int k = 0; k < images; k++) {
                    told.append(" ").append(16 * len + bits).append("-").append(x.image(len, bits, k));
                }
            }
        }
        return told.toString();
    }

    static boolean related(PairExpressions x, String u, String v) {
        return x.related(u.length(), bits(u), v.length(), bits(v));
    }

    static int bits(String word) {
        return word.isEmpty() ? 0 : Integer.parseInt(word, 2);
    }
}
