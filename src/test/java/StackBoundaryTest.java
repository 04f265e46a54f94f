/** Promises 1 to 10 at their boundaries: a test for each sentence of the document that names one. */
public final class StackBoundaryTest {
    private static final int BAD_ARG = PairExpressions.BAD_ARG;
    private static final int FULL = PairExpressions.FULL;
    private static final int TOO_FEW = PairExpressions.TOO_FEW;
    private static final int NONE = PairExpressions.NONE;
    private static final int[] NOT_0_TO_2 = {
        -1, 3, -2, 4, 255, 256, 257, 65535, 65536, Integer.MIN_VALUE, Integer.MIN_VALUE + 1, Integer.MIN_VALUE + 2,
        Integer.MAX_VALUE, Integer.MAX_VALUE - 1
    };
    private static final String[] OPERATORS = {".", "|", "*", "~"};
    /** 9 pairs in 17 steps, one expression on the stack. */
    private static final String NINE_PAIRS = "00 00" + " . 00".repeat(7) + " .";
    private static final String EIGHTEEN_STEPS = NINE_PAIRS + " *";
    /** 5 letters on the left: the expression has a pair, but none of two short words. */
    private static final String LONG_LEFT = "02 02 . 02 . 02 . 02 .";
    private static final Check check = new Check("StackBoundaryTest");

    public static void main(String[] args) {
        newStackIsEmpty();
        newRelationHasNoPair();
        newObjectStandsAlone();
        pairLeftOutOfRange();
        pairRightOutOfRange();
        pairBothOutOfRange();
        pairInRange();
        pairAtEighteenSteps();
        pairOnFullStack();
        pairAfterNine();
        pairNineCountsAcceptedOnly();
        pairNineSinceEmptied();
        pairBadArgumentFirst();
        pairAnswersNumber();
        operatorsAtEighteenSteps();
        operatorsOnTooFew();
        operatorsFullBeforeTooFew();
        operatorsAnswerNumber();
        operatorsOnNoShortPair();
        starOfNothing();
        starAtItsLongest();
        catAtFourLetters();
        turnAtTheEnds();
        stepsCountAcceptedCalls();
        stepsAfterEmptying();
        depthAtItsEnds();
        discardAtEachLimit();
        discardLeavesRelation();
        defineOnEmptyStack();
        defineAtEachLimit();
        defineAnswersNumber();
        check.end();
    }

    private static void newStackIsEmpty() {
        check.sentence("promise 1: The stack is empty");
        check.due("steps and depth", Check.counts(new PairExpressions()), "0 0");
        for (String operator : OPERATORS) {
            check.due(operator, Check.build(new PairExpressions(), operator), TOO_FEW);
        }
        check.due("define()", new PairExpressions().define(), TOO_FEW);
        check.due("first pair", new PairExpressions().pair(0, 0), 1);
    }

    private static void newRelationHasNoPair() {
        check.sentence("promise 1: the relation in use has no pair");
        PairExpressions x = new PairExpressions();
        check.due("all pairs", Check.seen(x), "0 0");
        check.due("pairs()", x.pairs(), 0);
        check.due("related of empty words", x.related(0, 0, 0, 0), false);
        check.due("image of the empty word", x.image(0, 0, 0), NONE);
        x.pair(2, 2);
        check.due("pairs() before the first define", x.pairs(), 0);
        x.discard();
        x.define();
        check.due("pairs() after a refused define", x.pairs(), 0);
    }

    private static void newObjectStandsAlone() {
        check.sentence("promise 1: a new object beside a full one");
        PairExpressions full = Check.built("11 = " + EIGHTEEN_STEPS);
        PairExpressions x = new PairExpressions();
        check.due("all of the new one", Check.seen(x), "0 0");
        check.due("its first pair", x.pair(0, 0), 1);
        check.due("all of the full one", Check.seen(full), "18 1 17-17");
    }

    private static void pairLeftOutOfRange() {
        check.sentence("promise 2: x not 0 to 2 answers BAD_ARG");
        for (int x : NOT_0_TO_2) {
            for (int y = 0; y <= 2; y++) {
                check.due("pair(" + x + ", " + y + ")", new PairExpressions().pair(x, y), BAD_ARG);
            }
        }
    }

    private static void pairRightOutOfRange() {
        check.sentence("promise 2: y not 0 to 2 answers BAD_ARG");
        for (int y : NOT_0_TO_2) {
            for (int x = 0; x <= 2; x++) {
                check.due("pair(" + x + ", " + y + ")", new PairExpressions().pair(x, y), BAD_ARG);
            }
        }
    }

    private static void pairBothOutOfRange() {
        check.sentence("promise 2: x and y not 0 to 2 answers BAD_ARG");
        for (int x : NOT_0_TO_2) {
            for (int y : NOT_0_TO_2) {
                check.due("pair(" + x + ", " + y + ")", new PairExpressions().pair(x, y), BAD_ARG);
            }
        }
    }

    private static void pairInRange() {
        check.sentence("promise 2: x and y just inside 0 to 2, the empty word if x or y is 2");
        int[] told = {16, 17, 0};
        for (int x = 0; x <= 2; x++) {
            for (int y = 0; y <= 2; y++) {
                check.due("pair(" + x + ", " + y + ")", Check.seen(Check.defined("" + x + y)),
                    "0 0 " + told[x] + "-" + told[y]);
            }
        }
    }

    private static void pairAtEighteenSteps() {
        check.sentence("promise 2: steps() is 18 answers FULL");
        PairExpressions x = Check.built("00" + " *".repeat(16));
        check.due("at 17 steps", x.pair(0, 0), 2);
        check.due("at 18 steps, room for 4 and 7 pairs left", x.pair(0, 0), FULL);
        check.due("once more", x.pair(2, 2), FULL);
        check.due("steps and depth", Check.counts(x), "18 2");
    }

    private static void pairOnFullStack() {
        check.sentence("promise 2: the stack holds 6 expressions answers FULL");
        PairExpressions x = Check.built("00 00 00 00 00");
        check.due("the 6th, on 5", x.pair(0, 0), 6);
        check.due("a 7th, on 6", x.pair(0, 0), FULL);
        check.due("steps and depth", Check.counts(x), "6 6");
        check.due("star leaves no room", Check.build(x, "* 00"), FULL);
        check.due("turn leaves no room", Check.build(x, "~ 00"), FULL);
        check.due("cat leaves room for one", Check.build(x, ". 00"), 6);
        check.due("and not for two", x.pair(0, 0), FULL);
        check.due("alt leaves room for one", Check.build(x, "| 00"), 6);
        check.due("and not for two more", x.pair(0, 0), FULL);
    }

    private static void pairAfterNine() {
        check.sentence("promise 2: 9 calls of pair were accepted answers FULL");
        PairExpressions x = Check.built("00 00 00 00 . . . 00 00 00 00");
        check.due("the 9th", x.pair(0, 0), 6);
        Check.build(x, ".");
        check.due("a 10th at 13 steps with 5 on the stack", Check.counts(x) + " " + x.pair(0, 0), "13 5 " + FULL);
        Check.build(x, "| . |");
        check.due("a 10th at 16 steps with 2 on the stack", Check.counts(x) + " " + x.pair(0, 0), "16 2 " + FULL);
        Check.build(x, ".");
        check.due("a 10th at 17 steps with 1 on the stack", Check.counts(x) + " " + x.pair(0, 0), "17 1 " + FULL);
    }

    private static void pairNineCountsAcceptedOnly() {
        check.sentence("promise 2: of the 9 calls of pair only accepted ones count");
        PairExpressions x = Check.built("03 30 33 00 00 00 00 00 00 00 00 00 00 03 . . . . . 00 00 30");
        check.due("the 9th after 9 refused ones", x.pair(0, 0), 4);
        check.due("the 10th", x.pair(0, 0), FULL);
    }

    private static void pairNineSinceEmptied() {
        check.sentence("promise 2: 9 calls of pair since the stack was last emptied");
        for (String emptied : new String[] {"!", "="}) {
            PairExpressions x = Check.built(NINE_PAIRS + " " + emptied + " 00 00 00 00 00 00 . . . . . 00 00");
            check.due("the 9th after " + emptied, x.pair(0, 0), 4);
            check.due("the 10th after " + emptied, x.pair(0, 0), FULL);
            check.due("a 1st after " + emptied + " again", Check.build(x, emptied + " 00"), 1);
        }
    }

    private static void pairBadArgumentFirst() {
        check.sentence("promise 2: BAD_ARG is tested before each FULL");
        String[] states = {
            "00" + " *".repeat(17), "00 00 00 00 00 00", NINE_PAIRS, EIGHTEEN_STEPS,
            "00 00 00 00 00 00 . . . 00 00 00 * * * * * *"
        };
        for (String state : states) {
            PairExpressions x = Check.built(state);
            check.due(state + ", pair(0, 0)", x.pair(0, 0), FULL);
            check.due(state + ", pair(3, 0)", x.pair(3, 0), BAD_ARG);
            check.due(state + ", pair(0, -1)", x.pair(0, -1), BAD_ARG);
            check.due(state + ", pair at the ends of int", x.pair(Integer.MIN_VALUE, Integer.MAX_VALUE), BAD_ARG);
        }
    }

    private static void pairAnswersNumber() {
        check.sentence("promise 2: Otherwise the number of expressions on the stack");
        PairExpressions x = new PairExpressions();
        for (int n = 1; n <= 6; n++) {
            check.due("pair number " + n, x.pair(2, 2), n);
        }
    }

    private static void operatorsAtEighteenSteps() {
        for (String operator : OPERATORS) {
            check.sentence("promises 3 to 6: " + operator + ", steps() is 18 answers FULL");
            boolean takesTwo = operator.equals(".") || operator.equals("|");
            PairExpressions x = Check.built("00 11 22" + " *".repeat(14));
            check.due("at 17 steps", Check.build(x, operator), takesTwo ? 2 : 3);
            check.due("at 18 steps", Check.build(x, operator), FULL);
            check.due("once more", Check.build(x, operator), FULL);
            check.due("steps and depth", Check.counts(x), takesTwo ? "18 2" : "18 3");
        }
    }

    private static void operatorsOnTooFew() {
        for (String operator : new String[] {".", "|"}) {
            check.sentence("promises 3 and 4: " + operator + ", fewer than two answers TOO_FEW");
            check.due("on none", Check.build(new PairExpressions(), operator), TOO_FEW);
            check.due("on one", Check.build(new PairExpressions(), "00 " + operator), TOO_FEW);
            check.due("on two", Check.build(new PairExpressions(), "00 00 " + operator), 1);
            check.due("on one again", Check.build(new PairExpressions(), "00 00 " + operator + " " + operator), TOO_FEW);
            check.due("on none after discard", Check.build(new PairExpressions(), "00 00 ! " + operator), TOO_FEW);
            check.due("on one after define", Check.build(new PairExpressions(), "00 00 = 00 " + operator), TOO_FEW);
        }
        for (String operator : new String[] {"*", "~"}) {
            check.sentence("promises 5 and 6: " + operator + ", empty stack answers TOO_FEW");
            check.due("on none", Check.build(new PairExpressions(), operator), TOO_FEW);
            check.due("on one", Check.build(new PairExpressions(), "00 " + operator), 1);
            check.due("on none after discard", Check.build(new PairExpressions(), "00 ! " + operator), TOO_FEW);
            check.due("on none after define", Check.build(new PairExpressions(), "00 = " + operator), TOO_FEW);
        }
    }

    /** For star and turn the two never apply at once: after 18 steps the stack is not empty. */
    private static void operatorsFullBeforeTooFew() {
        for (String operator : new String[] {".", "|"}) {
            check.sentence("promises 3 and 4: " + operator + ", FULL is tested before TOO_FEW");
            PairExpressions x = Check.built("00" + " *".repeat(16));
            check.due("one on the stack, 17 steps", Check.build(x, operator), TOO_FEW);
            check.due("one on the stack, 18 steps", Check.build(x, "* " + operator), FULL);
        }
    }

    private static void operatorsAnswerNumber() {
        check.sentence("promises 3 to 6: Otherwise the number on the stack");
        for (int n = 1; n <= 6; n++) {
            String some = "00 ".repeat(n);
            check.due("star on " + n, Check.build(new PairExpressions(), some + "*"), n);
            check.due("turn on " + n, Check.build(new PairExpressions(), some + "~"), n);
            check.due("cat on " + n, Check.build(new PairExpressions(), some + "."), n < 2 ? TOO_FEW : n - 1);
            check.due("alt on " + n, Check.build(new PairExpressions(), some + "|"), n < 2 ? TOO_FEW : n - 1);
        }
    }

    private static void operatorsOnNoShortPair() {
        check.sentence("promises 3 to 6: an expression that has no pair of two short words");
        check.due("alone", Check.seen(Check.defined(LONG_LEFT)), "0 0");
        check.due("cat of it and another", Check.seen(Check.defined(LONG_LEFT + " 22 .")), "0 0");
        check.due("cat of another and it", Check.seen(Check.defined("22 " + LONG_LEFT + " .")), "0 0");
        check.due("alt of it and another", Check.seen(Check.defined(LONG_LEFT + " 01 |")), "0 0 16-17");
        check.due("alt of another and it", Check.seen(Check.defined("01 " + LONG_LEFT + " |")), "0 0 16-17");
        check.due("its star", Check.seen(Check.defined(LONG_LEFT + " *")), "0 0 0-0");
        check.due("its turn", Check.seen(Check.defined(LONG_LEFT + " ~")), "0 0");
        check.due("its turn in cat", Check.seen(Check.defined(LONG_LEFT + " ~ 22 .")), "0 0");
    }

    private static void starOfNothing() {
        check.sentence("promise 5: star X has the pair of two empty words");
        check.due("which X has not", Check.seen(Check.defined("02 21 . *")), "0 0 0-0 16-17 32-35 48-55 64-79");
        check.due("which X has alone", Check.seen(Check.defined("22 *")), "0 0 0-0");
        check.due("which X has among others", Check.defined("22 00 | *").pairs(), 5);
        check.due("star of star", Check.defined("00 * *").pairs(), 5);
    }

    private static void starAtItsLongest() {
        check.sentence("promise 5: star X has what comes out of one or more pairs of X");
        check.due("one pair, of four letters each",
            Check.seen(Check.defined("01 01 . 01 . 01 . *")), "0 0 0-0 64-79");
        check.due("two pairs, of two letters each", Check.seen(Check.defined("01 01 . *")), "0 0 0-0 32-35 64-79");
        check.due("three pairs", Check.related(Check.defined("02 21 | *"), "00", "1"), true);
        check.due("five pairs", Check.related(Check.defined("02 21 | *"), "0000", "1"), true);
        check.due("seven pairs", Check.related(Check.defined("02 21 | *"), "000", "1111"), true);
        check.due("eight pairs", Check.related(Check.defined("02 21 | *"), "0000", "1111"), true);
        check.due("eight pairs in another order", Check.related(Check.defined("02 12 | 20 | 21 | *"), "0110", "1011"), true);
        check.due("all of them", Check.defined("02 12 | 20 | 21 | *").pairs(), 961);
    }

    private static void catAtFourLetters() {
        check.sentence("promise 3: cat to four letters and to five");
        check.due("four on the left", Check.seen(Check.defined("02 12 . 12 . 12 .")), "0 0 71-0");
        check.due("four on the right", Check.seen(Check.defined("21 20 . 20 . 20 .")), "0 0 0-72");
        check.due("four on both", Check.seen(Check.defined("01 10 . 10 . 11 .")), "0 0 71-73");
        check.due("five on the left", Check.seen(Check.defined(LONG_LEFT)), "0 0");
        check.due("five on the right", Check.seen(Check.defined("20 20 . 20 . 20 . 20 .")), "0 0");
        check.due("four and five", Check.seen(Check.defined("00 00 . 00 . 00 . 20 .")), "0 0");
        check.due("three and two", Check.seen(Check.defined("00 00 . 00 . 00 00 . .")), "0 0");
        check.due("nothing put behind four", Check.seen(Check.defined("11 11 . 11 . 11 . 22 .")), "0 0 79-79");
        check.due("nothing put before four", Check.seen(Check.defined("22 11 11 . 11 . 11 . .")), "0 0 79-79");
    }

    private static void turnAtTheEnds() {
        check.sentence("promise 6: turn of the first and of the last word");
        check.due("empty and empty", Check.seen(Check.defined("22 ~")), "0 0 0-0");
        check.due("empty and 1111", Check.seen(Check.defined("21 21 . 21 . 21 . ~")), "0 0 79-0");
        check.due("1111 and empty", Check.seen(Check.defined("12 12 . 12 . 12 . ~")), "0 0 0-79");
        check.due("1111 and 0000", Check.seen(Check.defined("10 10 . 10 . 10 . ~")), "0 0 64-79");
    }

    private static void stepsCountAcceptedCalls() {
        check.sentence("promise 7: The number of accepted calls of pair, cat, alt, star and turn");
        PairExpressions x = Check.built(". | * ~ = 30");
        check.due("refused calls only", x.steps(), 0);
        String[] accepted = {"00", "*", "~", "11", "|", "22", "."};
        for (int n = 0; n < accepted.length; n++) {
            Check.build(x, accepted[n]);
            check.due("accepted " + accepted[n], x.steps(), n + 1);
        }
        Check.build(x, ". | 03 30");
        check.due("four refused ones later", x.steps(), 7);
        Check.build(x, "~ ".repeat(11));
        check.due("at the limit", x.steps(), 18);
        Check.build(x, "* ~ . | 00");
        check.due("after the limit", x.steps(), 18);
    }

    private static void stepsAfterEmptying() {
        check.sentence("promise 7: since the stack was last emptied by define or discard");
        for (String emptied : new String[] {"!", "="}) {
            PairExpressions x = Check.built(EIGHTEEN_STEPS + " " + emptied);
            check.due("steps after " + emptied, x.steps(), 0);
            Check.build(x, "00");
            check.due("and a pair", x.steps(), 1);
            check.due("17 more after " + emptied, Check.build(x, "* ".repeat(17)), 1);
            check.due("steps then", x.steps(), 18);
            check.due("an 18th more", x.star(), FULL);
        }
    }

    private static void depthAtItsEnds() {
        check.sentence("promise 8: The number of expressions on the stack, 0 to 6");
        PairExpressions x = new PairExpressions();
        for (int n = 0; n < 6; n++) {
            check.due("before pair number " + (n + 1), x.depth(), n);
            x.pair(1, 2);
        }
        check.due("full", x.depth(), 6);
        x.pair(1, 2);
        check.due("after a refused pair", x.depth(), 6);
        for (int n = 5; n >= 1; n--) {
            x.cat();
            check.due("after cat", x.depth(), n);
        }
        x.cat();
        check.due("after a refused cat", x.depth(), 1);
        x.discard();
        check.due("emptied", x.depth(), 0);
    }

    private static void discardAtEachLimit() {
        check.sentence("promise 9: Empties the stack; steps() becomes 0");
        String[] states = {"", "00", "00 00 00 00 00 00", NINE_PAIRS, EIGHTEEN_STEPS, "00 =", "00 !"};
        for (String state : states) {
            PairExpressions x = Check.built(state + " !");
            check.due("steps and depth after " + state, Check.counts(x), "0 0");
            check.due("define() after " + state, x.define(), TOO_FEW);
            check.due("pair after " + state, x.pair(0, 0), 1);
            check.due("cat after " + state, x.cat(), TOO_FEW);
        }
    }

    private static void discardLeavesRelation() {
        check.sentence("promise 9: discard leaves the relation in use");
        check.due("that has no pair", Check.seen(Check.built("!")), "0 0");
        check.due("that has no pair, with one on the stack", Check.seen(Check.built("01 !")), "0 0");
        check.due("with an empty stack", Check.seen(Check.built("01 = !")), "0 0 16-17");
        check.due("with others on the stack", Check.seen(Check.built("01 = 11 00 . 22 !")), "0 0 16-17");
    }

    private static void defineOnEmptyStack() {
        check.sentence("promise 10: TOO_FEW if the stack is empty");
        check.due("of a new object", Check.build(new PairExpressions(), "="), TOO_FEW);
        check.due("after discard", Check.build(new PairExpressions(), "00 ! ="), TOO_FEW);
        check.due("after define", Check.build(new PairExpressions(), "00 11 = ="), TOO_FEW);
        check.due("and the relation stays", Check.seen(Check.built("00 11 = = =")), "0 0 17-17");
        check.due("also with one on the stack later", Check.seen(Check.built("11 = = 00")), "1 1 17-17");
    }

    private static void defineAtEachLimit() {
        check.sentence("promise 10: the stack is emptied, steps() becomes 0");
        String[] states = {"01", "00 00 00 00 00 01", "00 01" + " ~".repeat(16), "22" + " 22 .".repeat(7) + " 01"};
        for (String state : states) {
            PairExpressions x = Check.built(state);
            int before = x.depth();
            check.due("define() after " + state, x.define(), before);
            check.due("steps and depth after " + state, Check.counts(x), "0 0");
            check.due("pair after " + state, x.pair(0, 0), 1);
            check.due("cat after " + state, x.cat(), TOO_FEW);
        }
        check.due("the top at 18 steps", Check.seen(Check.built("00 01" + " ~".repeat(16) + " =")), "0 0 16-17");
        check.due("the top of 6", Check.seen(Check.built("00 00 00 00 00 01 =")), "0 0 16-17");
    }

    private static void defineAnswersNumber() {
        check.sentence("promise 10: Otherwise the number of expressions that were on the stack");
        for (int n = 1; n <= 6; n++) {
            check.due("define on " + n, Check.build(new PairExpressions(), "22 ".repeat(n) + "="), n);
        }
    }
}
