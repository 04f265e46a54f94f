/** Promises 1 to 10: a new object, and the calls that make and define expressions. */
public final class StackTest {
    private static final int BAD_ARG = PairExpressions.BAD_ARG;
    private static final int FULL = PairExpressions.FULL;
    private static final int TOO_FEW = PairExpressions.TOO_FEW;
    /** 9 pairs and 18 steps, with one expression left on the stack. */
    private static final String EIGHTEEN = "00 00 . 00 . 00 . 00 . 00 . 00 . 00 . 00 . *";
    private static final Check check = new Check("StackTest");

    public static void main(String[] args) {
        newObject();
        pairsOfLetters();
        pairOutOfRange();
        pairLimits();
        pairRefusalOrder();
        catOrderOfParts();
        catOfManyPairs();
        alternatives();
        stars();
        turns();
        operatorsTooFew();
        operatorsFull();
        refusedCallsChangeNothing();
        stepsAndDepth();
        discards();
        defines();
        defineTakesTheTop();
        check.end();
    }

    private static void counts(String when, PairExpressions x, int steps, int depth) {
        check.due(when + ": steps()", x.steps(), steps);
        check.due(when + ": depth()", x.depth(), depth);
    }

    private static void onlyPair(String text, String u, String v) {
        PairExpressions x = Check.defined(text);
        check.due(text + ": pairs()", x.pairs(), 1);
        check.due(text + ": related " + u + " " + v, Check.related(x, u, v), true);
    }

    private static void newObject() {
        PairExpressions x = new PairExpressions();
        counts("promise 1, new", x, 0, 0);
        check.due("promise 1: pairs()", x.pairs(), 0);
        check.due("promise 1: related of empty words", x.related(0, 0, 0, 0), false);
        check.due("promise 1: images", x.images(0, 0), 0);
        check.due("promise 1: image", x.image(0, 0, 0), PairExpressions.NONE);
        check.due("promise 1: sources", x.sources(0, 0), 0);
        check.due("promise 1: domain()", x.domain(), 0);
        check.due("promise 1: manyValued()", x.manyValued(), 0);
        check.due("promise 1: fixed()", x.fixed(), 0);
        check.due("promise 1: twoSteps()", x.twoSteps(), 0);
        PairExpressions other = Check.defined("00");
        check.due("promise 1: one object leaves another alone", x.pairs() * 10 + other.pairs(), 1);
    }

    private static void pairsOfLetters() {
        String[] words = {"0", "1", ""};
        for (int a = 0; a <= 2; a++) {
            for (int b = 0; b <= 2; b++) {
                onlyPair("" + a + b, words[a], words[b]);
            }
        }
    }

    private static void pairOutOfRange() {
        PairExpressions x = new PairExpressions();
        int[] outside = {-1, 3, Integer.MIN_VALUE, Integer.MAX_VALUE, 4, 256, 1 << 16, -2};
        for (int bad : outside) {
            for (int good = 0; good <= 2; good++) {
                check.due("promise 2: pair(" + bad + ", " + good + ")", x.pair(bad, good), BAD_ARG);
                check.due("promise 2: pair(" + good + ", " + bad + ")", x.pair(good, bad), BAD_ARG);
            }
            check.due("promise 2: pair(" + bad + ", " + bad + ")", x.pair(bad, bad), BAD_ARG);
        }
        counts("promise 2, after refusals", x, 0, 0);
    }

    private static void pairLimits() {
        PairExpressions x = new PairExpressions();
        for (int n = 1; n <= 6; n++) {
            check.due("promise 2: pair number " + n, x.pair(0, 1), n);
        }
        check.due("promise 2: a seventh on the stack", x.pair(0, 1), FULL);
        counts("promise 2, stack full", x, 6, 6);
        check.due("promise 2: room again", Check.build(x, ". . 00 00"), 6);
        check.due("promise 2: full again", x.pair(1, 1), FULL);
        check.due("promise 2: the ninth", Check.build(x, ". 00"), 6);
        check.due("promise 2: a tenth with no room", x.pair(1, 1), FULL);
        check.due("promise 2: before the tenth", x.cat(), 5);
        check.due("promise 2: a tenth", x.pair(1, 1), FULL);
        counts("promise 2, nine pairs", x, 13, 5);
        x.discard();
        check.due("promise 2: nine anew after discard", Check.build(x, "00 00 . 00 . 00 . 00 . 00 . 00 . 00 . 00"), 2);
        check.due("promise 2: a tenth after discard", x.pair(1, 1), FULL);
        x.define();
        check.due("promise 2: nine anew after define", Check.build(x, "00 00 . 00 . 00 . 00 . 00 . 00 . 00 . 00"), 2);
        check.due("promise 2: a tenth after define", x.pair(1, 1), FULL);
    }

    private static void pairRefusalOrder() {
        PairExpressions x = new PairExpressions();
        Check.build(x, "00 00 00 00 00 00");
        check.due("promise 2: BAD_ARG before a full stack", x.pair(3, 0), BAD_ARG);
        x.discard();
        Check.build(x, EIGHTEEN);
        check.due("promise 2: 18 steps", x.pair(0, 0), FULL);
        check.due("promise 2: BAD_ARG before 18 steps", x.pair(0, 3), BAD_ARG);
        x.discard();
        Check.build(x, "00 * * * * * * * * * * * * * * * * *");
        counts("promise 2, one pair and 17 stars", x, 18, 1);
        check.due("promise 2: 18 steps with room and pairs left", x.pair(0, 0), FULL);
        x.discard();
        Check.build(x, "00 * * * * * * * * * * * * * * * *");
        check.due("promise 2: the 18th step", x.pair(0, 0), 2);
    }

    private static void catOrderOfParts() {
        onlyPair("02 10 .", "01", "0");
        onlyPair("10 01 .", "10", "01");
        onlyPair("01 11 . 20 .", "01", "110");
        onlyPair("01 11 20 . .", "01", "110");
        onlyPair("22 10 .", "1", "0");
        onlyPair("10 22 .", "1", "0");
        onlyPair("22 22 .", "", "");
        onlyPair("10 01 . 11 . 01 .", "1010", "0111");
        onlyPair("00 11 . 01 10 . .", "0101", "0110");
        PairExpressions x = new PairExpressions();
        check.due("promise 3: cat of three", Check.build(x, "00 11 01 ."), 2);
        check.due("promise 3: cat of two", x.cat(), 1);
    }

    private static void catOfManyPairs() {
        PairExpressions x = Check.defined("00 11 | 01 10 | .");
        check.due("promise 3: pairs of a product", x.pairs(), 4);
        check.due("promise 3: 01 with 00", Check.related(x, "01", "00"), true);
        check.due("promise 3: 00 with 00", Check.related(x, "00", "00"), false);
        x = Check.defined("02 22 | 02 22 | .");
        check.due("promise 3: what comes out in two ways counts once", x.pairs(), 3);
        onlyPair("00 00 . 00 . 00 .", "0000", "0000");
        check.due("promise 3: five letters are no short word", Check.defined("02 02 . 02 . 02 . 02 .").pairs(), 0);
        check.due("promise 3: nor on the right", Check.defined("20 20 . 20 . 20 . 20 .").pairs(), 0);
        onlyPair("12 22 . 21 . 12 . 21 . 12 . 21 . 12 . 20 .", "1111", "1110");
    }

    private static void alternatives() {
        PairExpressions x = new PairExpressions();
        check.due("promise 4: alt of three", Check.build(x, "00 01 12 |"), 2);
        check.due("promise 4: alt of two", x.alt(), 1);
        check.due("promise 4: define", x.define(), 1);
        check.due("promise 4: pairs()", x.pairs(), 3);
        check.due("promise 4: first", Check.related(x, "0", "0"), true);
        check.due("promise 4: second", Check.related(x, "0", "1"), true);
        check.due("promise 4: third", Check.related(x, "1", ""), true);
        onlyPair("01 01 |", "0", "1");
        x = Check.defined("00 11 10 |");
        check.due("promise 4: takes just the two topmost", Check.related(x, "0", "0"), false);
        check.due("promise 4: and holds both", x.pairs(), 2);
    }

    private static void stars() {
        PairExpressions x = new PairExpressions();
        check.due("promise 5: star below the top stays", Check.build(x, "00 11 *"), 2);
        check.due("promise 5: define", x.define(), 2);
        check.due("promise 5: powers of one pair", x.pairs(), 5);
        check.due("promise 5: four times", Check.related(x, "1111", "1111"), true);
        check.due("promise 5: not another number", Check.related(x, "111", "1111"), false);
        onlyPair("22 *", "", "");
        check.due("promise 5: star of star", Check.defined("10 * *").pairs(), 5);
        check.due("promise 5: eight pairs one after another", Check.defined("02 21 | *").pairs(), 25);
        check.due("promise 5: the last of them", Check.related(Check.defined("02 21 | *"), "0000", "1111"), true);
        check.due("promise 5: all pairs", Check.defined("02 12 | 20 | 21 | *").pairs(), 961);
        check.due("promise 5: steps of three letters", Check.defined("02 02 . 02 . *").pairs(), 2);
        check.due("promise 5: a star of long words has the empty pair", Check.defined("02 02 . 02 . 02 . 02 . *").pairs(), 1);
        x = Check.defined("00 11 . * 10 .");
        check.due("promise 5: star in cat, none", Check.related(x, "1", "0"), true);
        check.due("promise 5: star in cat, one", Check.related(x, "011", "010"), true);
        check.due("promise 5: star in cat, all", x.pairs(), 2);
    }

    private static void turns() {
        onlyPair("01 ~", "1", "0");
        onlyPair("02 ~", "", "0");
        onlyPair("02 ~ ~", "0", "");
        onlyPair("01 02 . 01 . ~", "11", "000");
        onlyPair("01 ~ 02 .", "10", "0");
        PairExpressions x = new PairExpressions();
        check.due("promise 6: turns the top alone", Check.build(x, "12 01 ~"), 2);
        check.due("promise 6: then cat", x.cat(), 1);
        x.define();
        check.due("promise 6: turned part", Check.related(x, "11", "0"), true);
        check.due("promise 6: keeps the number of pairs", Check.defined("00 11 | 20 | * ~").pairs(), 88);
        check.due("promise 6: sources become images", Check.defined("00 11 | 20 | * ~").images(3, 0), 4);
    }

    private static void operatorsTooFew() {
        PairExpressions x = new PairExpressions();
        check.due("promise 3: cat on an empty stack", x.cat(), TOO_FEW);
        check.due("promise 4: alt on an empty stack", x.alt(), TOO_FEW);
        check.due("promise 5: star on an empty stack", x.star(), TOO_FEW);
        check.due("promise 6: turn on an empty stack", x.turn(), TOO_FEW);
        counts("after refusals on an empty stack", x, 0, 0);
        x.pair(0, 1);
        check.due("promise 3: cat of one", x.cat(), TOO_FEW);
        check.due("promise 4: alt of one", x.alt(), TOO_FEW);
        counts("after refusals with one", x, 1, 1);
        check.due("promise 5: star of one", x.star(), 1);
        check.due("promise 6: turn of one", x.turn(), 1);
    }

    private static void operatorsFull() {
        PairExpressions x = new PairExpressions();
        check.due("the 18th step", Check.build(x, EIGHTEEN), 1);
        check.due("promise 3: FULL before TOO_FEW", x.cat(), FULL);
        check.due("promise 4: FULL before TOO_FEW", x.alt(), FULL);
        check.due("promise 5: FULL", x.star(), FULL);
        check.due("promise 6: FULL", x.turn(), FULL);
        counts("after refusals at 18 steps", x, 18, 1);
        for (String last : new String[] {".", "|", "*", "~"}) {
            x.discard();
            Check.build(x, "00 11 * * * * * * * * * * * * * * *");
            int left = last.equals(".") || last.equals("|") ? 1 : 2;
            check.due("18th step " + last, Check.build(x, last), left);
            counts("18th step " + last, x, 18, left);
            check.due("19th step " + last, Check.build(x, last), FULL);
        }
        x.discard();
        Check.build(x, "00 11 * * * * * * * * * * * * * * * *");
        check.due("promise 3: FULL with two on the stack", x.cat(), FULL);
        check.due("promise 4: FULL with two on the stack", x.alt(), FULL);
    }

    private static void refusedCallsChangeNothing() {
        PairExpressions x = Check.defined("11");
        Check.build(x, "01 * * * * * * * * * * * * * * * * * . | * ~ 10");
        counts("refused at 18 steps", x, 18, 1);
        check.due("refused calls leave the relation in use", x.pairs(), 1);
        x.define();
        check.due("refused turn left the top", Check.related(x, "000", "111"), true);
        x = new PairExpressions();
        Check.build(x, "01 . | 03");
        check.due("define after refused calls", x.define(), 1);
        check.due("refused cat and alt left the top", x.pairs(), 1);
        check.due("and its pair", Check.related(x, "0", "1"), true);
        x = new PairExpressions();
        Check.build(x, "00 00 00 00 00 01 11");
        x.define();
        check.due("a refused pair left the top", Check.related(x, "0", "1"), true);
    }

    private static void stepsAndDepth() {
        PairExpressions x = new PairExpressions();
        String[] calls = {"00", "11", ".", "01", "|", "*", "~", "22", "20", "."};
        int[] depths = {1, 2, 1, 2, 1, 1, 1, 2, 3, 2};
        for (int n = 0; n < calls.length; n++) {
            Check.build(x, calls[n]);
            counts("promises 7 and 8, call " + n, x, n + 1, depths[n]);
        }
        x.images(0, 0);
        x.related(0, 0, 0, 0);
        x.pairs();
        x.twoSteps();
        counts("promises 7 and 8, questions are no steps", x, 10, 2);
        x.define();
        counts("promises 7 and 8, after define", x, 0, 0);
    }

    private static void discards() {
        PairExpressions x = Check.defined("01");
        x.discard();
        counts("promise 9, of an empty stack", x, 0, 0);
        Check.build(x, "11 00 *");
        x.discard();
        counts("promise 9", x, 0, 0);
        check.due("promise 9: the relation in use stays", x.pairs(), 1);
        check.due("promise 9: and its pair", Check.related(x, "0", "1"), true);
        check.due("promise 9: nothing to define", x.define(), TOO_FEW);
        check.due("promise 9: starts at one again", x.pair(0, 0), 1);
        check.due("promise 9: nothing below", x.cat(), TOO_FEW);
        Check.build(x, "! " + EIGHTEEN + " !");
        check.due("promise 9: after 18 steps", x.pair(0, 0), 1);
    }

    private static void defines() {
        PairExpressions x = new PairExpressions();
        check.due("promise 10: empty stack", x.define(), TOO_FEW);
        for (int n = 1; n <= 6; n++) {
            for (int pushed = 0; pushed < n; pushed++) {
                x.pair(0, 0);
            }
            check.due("promise 10: answers the number there was", x.define(), n);
            counts("promise 10", x, 0, 0);
        }
        check.due("promise 10: refused again", x.define(), TOO_FEW);
        check.due("promise 10: a refused define leaves the relation", Check.related(x, "0", "0"), true);
        Check.build(x, EIGHTEEN);
        check.due("promise 10: defines at 18 steps", x.define(), 1);
        check.due("promise 10: the star of nine letters", x.pairs(), 1);
    }

    private static void defineTakesTheTop() {
        PairExpressions x = new PairExpressions();
        check.due("promise 10: three on the stack", Check.build(x, "00 11 | 01 12 ="), 3);
        check.due("promise 10: just the top", x.pairs(), 1);
        check.due("promise 10: the top's pair", Check.related(x, "1", ""), true);
        Check.build(x, "00 11 |");
        check.due("promise 10: not before define", x.pairs(), 1);
        x.define();
        check.due("promise 10: replaced", x.pairs(), 2);
        check.due("promise 10: the old one is gone", Check.related(x, "1", ""), false);
        Check.build(x, "01 *");
        check.due("promise 10: later calls leave it alone", x.pairs(), 2);
    }
}
