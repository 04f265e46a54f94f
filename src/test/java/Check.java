/** Counts and prints the answers that are not the ones due, and ends the test with exit code 1 if there was one. */
final class Check {
    private final String test;
    private int asked = 0;
    private int wrong = 0;

    Check(String test) {
        this.test = test;
    }

    void due(String call, long got, long want) {
        asked++;
        if (got != want) {
            wrong++;
            System.out.println(test + ": " + call + " answered " + got + ", due is " + want);
        }
    }

    void due(String call, boolean got, boolean want) {
        due(call, got ? 1 : 0, want ? 1 : 0);
    }

    void end() {
        System.out.println(test + ": " + asked + " answers looked at, " + wrong + " wrong");
        if (wrong != 0 || asked == 0) {
            System.exit(1);
        }
    }

    /**
     * Makes the calls that a text tells, and answers the last call's answer. "01" is pair(0, 1), "." cat,
     * "|" alt, "*" star, "~" turn, "=" define, "!" discard; spaces stand between them.
     */
    static int build(PairExpressions x, String text) {
        int answer = 0;
        for (String call : text.trim().split(" +")) {
            switch (call) {
                case "." -> answer = x.cat();
                case "|" -> answer = x.alt();
                case "*" -> answer = x.star();
                case "~" -> answer = x.turn();
                case "=" -> answer = x.define();
                case "!" -> x.discard();
                default -> answer = x.pair(call.charAt(0) - '0', call.charAt(1) - '0');
            }
        }
        return answer;
    }

    /** A new object whose relation in use is that of the text. */
    static PairExpressions defined(String text) {
        PairExpressions x = new PairExpressions();
        build(x, text);
        x.define();
        return x;
    }

    static boolean related(PairExpressions x, String u, String v) {
        return x.related(u.length(), bits(u), v.length(), bits(v));
    }

    static int bits(String word) {
        return word.isEmpty() ? 0 : Integer.parseInt(word, 2);
    }
}
