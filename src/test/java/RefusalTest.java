import java.util.function.ToIntFunction;

/**
 * No call ever throws. A refused call answers the code named and changes nothing. An object serves 512 calls.
 * In each of the states at a limit every call that can be refused is made, and where it is refused, all that
 * the object answers later is compared with a twin on which the call was not made.
 */
public final class RefusalTest {
    private static final int MOST_CALLS = 512;
    /** Stands in the table below for a call that is accepted in that state. */
    private static final int TAKEN = 0;
    private static final int BAD_ARG = PairExpressions.BAD_ARG;
    private static final int FULL = PairExpressions.FULL;
    private static final int TOO_FEW = PairExpressions.TOO_FEW;
    private static final int NONE = PairExpressions.NONE;
    private static final int[] ENDS = {Integer.MIN_VALUE, -1, 0, 4, 5, 32, Integer.MAX_VALUE};
    private static final String[] OPERATORS = {".", "|", "*", "~", "="};
    /** A relation in use that has a pair for each word, so that none can be lost unseen. */
    private static final String EQUAL = "00 11 | * = ";
    private static final String SIX = "01 10 12 21 00 20";
    private static final String NINE = "01 10 . 02 | 20 . 00 | 12 . 01 | 10 . 02";

    private record State(String calls, int pair, int cat, int alt, int star, int turn, int define) {
    }

    private static final State[] STATES = {
        new State("", TAKEN, TOO_FEW, TOO_FEW, TOO_FEW, TOO_FEW, TOO_FEW),
        new State(EQUAL, TAKEN, TOO_FEW, TOO_FEW, TOO_FEW, TOO_FEW, TOO_FEW),
        new State(EQUAL + "01 10 !", TAKEN, TOO_FEW, TOO_FEW, TOO_FEW, TOO_FEW, TOO_FEW),
        new State("01", TAKEN, TOO_FEW, TOO_FEW, TAKEN, TAKEN, TAKEN),
        new State(EQUAL + "01 10 .", TAKEN, TOO_FEW, TOO_FEW, TAKEN, TAKEN, TAKEN),
        new State(EQUAL + "01 10", TAKEN, TAKEN, TAKEN, TAKEN, TAKEN, TAKEN),
        new State(EQUAL + SIX, FULL, TAKEN, TAKEN, TAKEN, TAKEN, TAKEN),
        new State(EQUAL + NINE, FULL, TAKEN, TAKEN, TAKEN, TAKEN, TAKEN),
        new State(EQUAL + NINE + " .", FULL, TOO_FEW, TOO_FEW, TAKEN, TAKEN, TAKEN),
        new State(EQUAL + SIX + " ~".repeat(11), FULL, TAKEN, TAKEN, TAKEN, TAKEN, TAKEN),
        new State(EQUAL + SIX + " ~".repeat(12), FULL, FULL, FULL, FULL, FULL, TAKEN),
        new State(EQUAL + "01 10" + " ~".repeat(16), FULL, FULL, FULL, FULL, FULL, TAKEN),
        new State(EQUAL + "01" + " ~".repeat(17), FULL, FULL, FULL, FULL, FULL, TAKEN),
        new State(EQUAL + NINE + " ~ .", FULL, FULL, FULL, FULL, FULL, TAKEN),
    };

    /** Each brings to light something that a refused call could have changed. */
    private static final String[] LATER = {
        "", "=", ". =", "| =", ". . =", ". | . =", ". . . . . =", "~ =", "* =", "02 =", "02 . =", "! 02 =", "= 02 =",
        "! 20 22 . =", "22 22 22 22 22 22", "22 . 22 . 22 . 22 . 22 . 22 . 22 . 22 . 22", "~ ".repeat(19) + "=", "! ~ ="
    };

    private static final Check check = new Check("RefusalTest");

    public static void main(String[] args) {
        for (State state : STATES) {
            refusedIn(state);
            neverThrows(state);
        }
        lastOfTheCalls();
        check.end();
    }

    private static void refusedIn(State state) {
        check.sentence("a refused call answers the code named and changes nothing, after '" + state.calls + "'");
        for (int[] bad : new int[][] {{3, 0}, {0, 3}, {-1, 2}, {2, Integer.MIN_VALUE}, {Integer.MAX_VALUE, 1}}) {
            refused(state, "pair(" + bad[0] + ", " + bad[1] + ")", x -> x.pair(bad[0], bad[1]), BAD_ARG);
        }
        refused(state, "pair(1, 0)", x -> x.pair(1, 0), state.pair);
        refused(state, "cat()", PairExpressions::cat, state.cat);
        refused(state, "alt()", PairExpressions::alt, state.alt);
        refused(state, "star()", PairExpressions::star, state.star);
        refused(state, "turn()", PairExpressions::turn, state.turn);
        refused(state, "define()", PairExpressions::define, state.define);
        refused(state, "images(5, 0)", x -> x.images(5, 0), BAD_ARG);
        refused(state, "image(4, 16, 0)", x -> x.image(4, 16, 0), BAD_ARG);
        refused(state, "image(0, 0, 31)", x -> x.image(0, 0, 31), NONE);
        refused(state, "image(0, 0, -1)", x -> x.image(0, 0, -1), NONE);
        refused(state, "sources(-1, 0)", x -> x.sources(-1, 0), BAD_ARG);
    }

    private static void refused(State state, String told, ToIntFunction<PairExpressions> call, int code) {
        if (code == TAKEN) {
            boolean taken = call.applyAsInt(Check.built(state.calls)) > 0;
            check.due(told + " is accepted", taken, true);
            return;
        }
        for (String later : LATER) {
            PairExpressions x = Check.built(state.calls);
            PairExpressions twin = Check.built(state.calls);
            check.due(told, call.applyAsInt(x), code);
            check.due(told + " once more", call.applyAsInt(x), code);
            check.due("after " + told + ", " + later, answers(x, later), answers(twin, later));
        }
    }

    /** The answer of each call of the text, and then all that can be asked. */
    private static String answers(PairExpressions x, String text) {
        StringBuilder told = new StringBuilder();
        for (String call : text.split(" ")) {
            told.append(Check.build(x, call)).append(" ");
        }
        return told + Check.seen(x);
    }

    /** A call that throws ends the test with an exit code other than 0. */
    private static void neverThrows(State state) {
        check.sentence("no call ever throws, after '" + state.calls + "'");
        for (int a : ENDS) {
            for (int b : ENDS) {
                PairExpressions x = Check.built(state.calls);
                everyCallWith(x, a, b);
                x.pair(a, b);
                everyCallWithoutArguments(x);
                x.pair(a, b);
                everyCallWithoutArguments(x);
            }
        }
    }

    private static void everyCallWith(PairExpressions x, int a, int b) {
        boolean valid = Model.word(a, b) != null;
        for (int c : ENDS) {
            for (int d : ENDS) {
                boolean both = valid && Model.word(c, d) != null;
                boolean related = x.related(a, b, c, d) | x.related(c, d, a, b);
                check.due("related with " + a + " " + b + " " + c + " " + d, related && !both, false);
            }
            check.due("image of " + a + " " + b + " " + c, x.image(a, b, c) == BAD_ARG, !valid);
        }
        check.due("images of " + a + " " + b, x.images(a, b) == BAD_ARG, !valid);
        check.due("sources of " + a + " " + b, x.sources(a, b) == BAD_ARG, !valid);
    }

    private static void everyCallWithoutArguments(PairExpressions x) {
        for (String operator : OPERATORS) {
            Check.build(x, operator);
            Check.build(x, operator);
        }
        x.discard();
        x.steps();
        x.depth();
        x.pairs();
        x.domain();
        x.manyValued();
        x.fixed();
        x.twoSteps();
    }

    private static void lastOfTheCalls() {
        check.sentence("an object is used for at most 512 calls");
        PairExpressions x = Check.built("01 10 | * =");
        for (int call = 6; call < MOST_CALLS; call++) {
            check.due("call " + call, x.pairs(), 31);
        }
        check.due("call " + MOST_CALLS, x.image(4, 6, 0), 73);
        x = new PairExpressions();
        for (int call = 1; call <= MOST_CALLS; call += 2) {
            check.due("call " + call, x.pair(0, 1), 1);
            check.due("call " + (call + 1), x.define(), 1);
        }
        x = new PairExpressions();
        for (int call = 1; call < MOST_CALLS; call++) {
            check.due("call " + call, x.pair(0, 3), BAD_ARG);
        }
        check.due("call " + MOST_CALLS + " after refused ones", x.pair(0, 1), 1);
        // Later answers are free, but no call may throw.
        for (int round = 0; round < MOST_CALLS; round++) {
            x.pair(round % 3, round % 2);
            everyCallWithoutArguments(x);
        }
    }
}
