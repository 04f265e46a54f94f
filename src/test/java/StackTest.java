/** Promises 1 to 10 on ordinary inputs: a new object, and the calls that make and define expressions. */
public final class StackTest {
    private static final Check check = new Check("StackTest");

    public static void main(String[] args) {
        newObject();
        pairsOfLetters();
        catOrderOfParts();
        catOfManyPairs();
        alternatives();
        stars();
        turns();
        stepsAndDepth();
        discards();
        defines();
        defineTakesTheTop();
        check.end();
    }

    private static void onlyPair(String text, String u, String v) {
        PairExpressions x = Check.defined(text);
        check.due(text + ": pairs()", x.pairs(), 1);
        check.due(text + ": related " + u + " " + v, Check.related(x, u, v), true);
    }

    private static void newObject() {
        PairExpressions x = new PairExpressions();
        check.due("promise 1: steps and depth", Check.counts(x), "0 0");
        check.due("promise 1: pairs()", x.pairs(), 0);
        PairExpressions other = Check.defined("00");
        check.due("promise 1: pairs() of another object", other.pairs(), 1);
        check.due("promise 1: one object leaves another alone", x.pairs(), 0);
    }

    private static void pairsOfLetters() {
        onlyPair("01", "0", "1");
        onlyPair("11", "1", "1");
        onlyPair("12", "1", "");
        onlyPair("20", "", "0");
        onlyPair("22", "", "");
    }

    private static void catOrderOfParts() {
        onlyPair("02 10 .", "01", "0");
        onlyPair("10 01 .", "10", "01");
        onlyPair("01 11 . 20 .", "01", "110");
        onlyPair("01 11 20 . .", "01", "110");
        onlyPair("22 10 .", "1", "0");
        onlyPair("10 22 .", "1", "0");
        onlyPair("22 22 .", "", "");
        onlyPair("10 01 . 11 . 01 .", "1010", "0111");
        onlyPair("00 11 . 01 10 . .", "0101", "0110");
        PairExpressions x = new PairExpressions();
        check.due("promise 3: cat of three", Check.build(x, "00 11 01 ."), 2);
        check.due("promise 3: cat of two", x.cat(), 1);
    }

    private static void catOfManyPairs() {
        PairExpressions x = Check.defined("00 11 | 01 10 | .");
        check.due("promise 3: pairs of a product", x.pairs(), 4);
        check.due("promise 3: 01 with 00", Check.related(x, "01", "00"), true);
        check.due("promise 3: 00 with 00", Check.related(x, "00", "00"), false);
        x = Check.defined("02 22 | 02 22 | .");
        check.due("promise 3: what comes out in two ways counts once", x.pairs(), 3);
        onlyPair("00 00 . 00 . 00 .", "0000", "0000");
        check.due("promise 3: five letters are no short word", Check.defined("02 02 . 02 . 02 . 02 .").pairs(), 0);
        check.due("promise 3: nor on the right", Check.defined("20 20 . 20 . 20 . 20 .").pairs(), 0);
        onlyPair("12 22 . 21 . 12 . 21 . 12 . 21 . 12 . 20 .", "1111", "1110");
    }

    private static void alternatives() {
        PairExpressions x = new PairExpressions();
        check.due("promise 4: alt of three", Check.build(x, "00 01 12 |"), 2);
        check.due("promise 4: alt of two", x.alt(), 1);
        check.due("promise 4: define", x.define(), 1);
        check.due("promise 4: pairs()", x.pairs(), 3);
        check.due("promise 4: first", Check.related(x, "0", "0"), true);
        check.due("promise 4: second", Check.related(x, "0", "1"), true);
        check.due("promise 4: third", Check.related(x, "1", ""), true);
        onlyPair("01 01 |", "0", "1");
        x = Check.defined("00 11 10 |");
        check.due("promise 4: takes just the two topmost", Check.related(x, "0", "0"), false);
        check.due("promise 4: and holds both", x.pairs(), 2);
    }

    private static void stars() {
        PairExpressions x = new PairExpressions();
        check.due("promise 5: star below the top stays", Check.build(x, "00 11 *"), 2);
        check.due("promise 5: define", x.define(), 2);
        check.due("promise 5: powers of one pair", x.pairs(), 5);
        check.due("promise 5: four times", Check.related(x, "1111", "1111"), true);
        check.due("promise 5: not another number", Check.related(x, "111", "1111"), false);
        onlyPair("22 *", "", "");
        check.due("promise 5: star of star", Check.defined("10 * *").pairs(), 5);
        check.due("promise 5: eight pairs one after another", Check.defined("02 21 | *").pairs(), 25);
        check.due("promise 5: the last of them", Check.related(Check.defined("02 21 | *"), "0000", "1111"), true);
        check.due("promise 5: all pairs", Check.defined("02 12 | 20 | 21 | *").pairs(), 961);
        check.due("promise 5: steps of three letters", Check.defined("02 02 . 02 . *").pairs(), 2);
        check.due("promise 5: a star of long words has the empty pair", Check.defined("02 02 . 02 . 02 . 02 . *").pairs(), 1);
        x = Check.defined("00 11 . * 10 .");
        check.due("promise 5: star in cat, none", Check.related(x, "1", "0"), true);
        check.due("promise 5: star in cat, one", Check.related(x, "011", "010"), true);
        check.due("promise 5: star in cat, all", x.pairs(), 2);
    }

    private static void turns() {
        onlyPair("01 ~", "1", "0");
        onlyPair("02 ~", "", "0");
        onlyPair("02 ~ ~", "0", "");
        onlyPair("01 02 . 01 . ~", "11", "000");
        onlyPair("01 ~ 02 .", "10", "0");
        PairExpressions x = new PairExpressions();
        check.due("promise 6: turns the top alone", Check.build(x, "12 01 ~"), 2);
        check.due("promise 6: then cat", x.cat(), 1);
        x.define();
        check.due("promise 6: turned part", Check.related(x, "11", "0"), true);
        check.due("promise 6: keeps the number of pairs", Check.defined("00 11 | 20 | * ~").pairs(), 88);
        check.due("promise 6: sources become images", Check.defined("00 11 | 20 | * ~").images(3, 0), 4);
    }

    private static void stepsAndDepth() {
        PairExpressions x = new PairExpressions();
        String[] calls = {"00", "11", ".", "01", "|", "*", "~", "22", "20", "."};
        int[] depths = {1, 2, 1, 2, 1, 1, 1, 2, 3, 2};
        for (int n = 0; n < calls.length; n++) {
            Check.build(x, calls[n]);
            check.due("promises 7 and 8, call " + n, Check.counts(x), (n + 1) + " " + depths[n]);
        }
        x.images(0, 0);
        x.related(0, 0, 0, 0);
        x.pairs();
        x.twoSteps();
        check.due("promises 7 and 8, questions are no steps", Check.counts(x), "10 2");
        x.define();
        check.due("promises 7 and 8, after define", Check.counts(x), "0 0");
    }

    private static void discards() {
        PairExpressions x = Check.built("01 = 11 00 *");
        x.discard();
        check.due("promise 9: steps and depth", Check.counts(x), "0 0");
        check.due("promise 9: the relation in use stays", Check.seen(x), "0 0 16-17");
        check.due("promise 9: starts at one again", x.pair(0, 0), 1);
    }

    private static void defines() {
        PairExpressions x = Check.built("00 11 01");
        check.due("promise 10: answers the number there was", x.define(), 3);
        check.due("promise 10: empties the stack and sets the relation", Check.seen(x), "0 0 16-17");
        check.due("promise 10: starts at one again", x.pair(0, 0), 1);
    }

    private static void defineTakesTheTop() {
        PairExpressions x = new PairExpressions();
        check.due("promise 10: three on the stack", Check.build(x, "00 11 | 01 12 ="), 3);
        check.due("promise 10: just the top", x.pairs(), 1);
        check.due("promise 10: the top's pair", Check.related(x, "1", ""), true);
        Check.build(x, "00 11 |");
        check.due("promise 10: not before define", x.pairs(), 1);
        x.define();
        check.due("promise 10: replaced", x.pairs(), 2);
        check.due("promise 10: the old one is gone", Check.related(x, "1", ""), false);
        Check.build(x, "01 *");
        check.due("promise 10: later calls leave it alone", x.pairs(), 2);
    }
}
