/** Promises 11 to 19 at their boundaries: a test for each sentence of the document that names one. */
public final class QuestionBoundaryTest {
    private static final int BAD_ARG = PairExpressions.BAD_ARG;
    private static final int NONE = PairExpressions.NONE;
    private static final String ALL = "02 12 | * 20 21 | * . =";
    private static final String NEW = "";
    /** The pair of 0 and 00000: the relation is not empty, but it has no pair of two short words. */
    private static final String LONG_RIGHT = "00 20 . 20 . 20 . 20 . =";
    private static final String LONG_LEFT = "00 02 . 02 . 02 . 02 . =";
    private static final String LONG_BOTH = "00 00 . 00 . 00 . 00 . =";
    /** For lengths and bits: around each bound, where a shift by the length wraps around, and the ends of int. */
    private static final int[] NUMBERS = {
        Integer.MIN_VALUE, Integer.MIN_VALUE + 1, Integer.MIN_VALUE + 4, -65536, -256, -64, -33, -32, -31, -30, -29,
        -28, -27, -16, -15, -5, -4, -3, -2, -1, 0, 1, 2, 3, 4, 5, 6, 7, 8, 9, 14, 15, 16, 17, 30, 31, 32, 33, 34, 35, 36,
        37, 63, 64, 65, 68, 255, 256, 260, 65536, 65540, 1 << 30, Integer.MAX_VALUE - 1, Integer.MAX_VALUE
    };
    private static final int[] BELOW_0 = {-1, -2, -31, -32, -64, -65536, Integer.MIN_VALUE + 1, Integer.MIN_VALUE};
    private static final int[] ABOVE_30 = {31, 32, 33, 63, 64, 256, 65536, Integer.MAX_VALUE - 1, Integer.MAX_VALUE};
    private static final Check check = new Check("QuestionBoundaryTest");

    private interface Question {
        int ask(PairExpressions x, int len, int bits);
    }

    public static void main(String[] args) {
        relatedNotValid();
        imagesNotValid();
        imageNotValid();
        imageNotValidBeforeNone();
        sourcesNotValid();
        eachWordIsItself();
        imageBelowZero();
        imageAtTheCount();
        imageOrderAcrossLengths();
        noPairAtAll();
        noPairOfTwoShortWords();
        relatedAtFourLetters();
        imagesAtFourLetters();
        sourcesAtFourLetters();
        pairsAtItsEnds();
        domainAtLeastOne();
        manyValuedTwoOrMore();
        fixedAtItsEnds();
        twoStepsAtItsEnds();
        twoStepsThroughShortWordsOnly();
        check.end();
    }

    /** Asks with each two of the numbers, of a new object for each length so that none is asked too often. */
    private static void eachWord(String state, String told, Question question, int dueIfValid, int dueIfNot) {
        for (int len : NUMBERS) {
            PairExpressions x = Check.built(state);
            for (int bits : NUMBERS) {
                int want = Model.word(len, bits) == null ? dueIfNot : dueIfValid;
                check.due(told + " with (" + len + ", " + bits + ")", question.ask(x, len, bits), want);
            }
        }
    }

    private static int number(boolean answer) {
        return answer ? 1 : 0;
    }

    private static void relatedNotValid() {
        Question left = (x, len, bits) -> number(x.related(len, bits, 4, 15));
        Question right = (x, len, bits) -> number(x.related(0, 0, len, bits));
        Question both = (x, len, bits) -> number(x.related(len, bits, len, bits));
        check.sentence("promise 11: false if u is not valid");
        eachWord(ALL, "all pairs", left, 1, 0);
        check.sentence("promise 11: false if v is not valid");
        eachWord(ALL, "all pairs", right, 1, 0);
        check.sentence("promise 11: false if both are not valid");
        eachWord(ALL, "all pairs", both, 1, 0);
        check.sentence("promise 11: false in a relation that has no pair");
        eachWord(NEW, "left", left, 0, 0);
        eachWord(NEW, "right", right, 0, 0);
        eachWord(NEW, "both", both, 0, 0);
    }

    private static void imagesNotValid() {
        check.sentence("promise 12: BAD_ARG if u = (len, bits) is not valid");
        eachWord(ALL, "all pairs", PairExpressions::images, 31, BAD_ARG);
        eachWord(NEW, "no pair", PairExpressions::images, 0, BAD_ARG);
    }

    private static void imageNotValid() {
        check.sentence("promise 13: u not valid answers BAD_ARG");
        eachWord(ALL, "the first of all pairs", (x, len, bits) -> x.image(len, bits, 0), 0, BAD_ARG);
        eachWord(ALL, "the last of all pairs", (x, len, bits) -> x.image(len, bits, 30), 79, BAD_ARG);
    }

    private static void imageNotValidBeforeNone() {
        check.sentence("promise 13: BAD_ARG is tested before NONE");
        eachWord(NEW, "no pair", (x, len, bits) -> x.image(len, bits, 0), NONE, BAD_ARG);
        for (int k : BELOW_0) {
            eachWord(ALL, "k = " + k, (x, len, bits) -> x.image(len, bits, k), NONE, BAD_ARG);
        }
        for (int k : ABOVE_30) {
            eachWord(ALL, "k = " + k, (x, len, bits) -> x.image(len, bits, k), NONE, BAD_ARG);
        }
    }

    private static void sourcesNotValid() {
        check.sentence("promise 14: BAD_ARG if v = (len, bits) is not valid");
        eachWord(ALL, "all pairs", PairExpressions::sources, 31, BAD_ARG);
        eachWord(NEW, "no pair", PairExpressions::sources, 0, BAD_ARG);
    }

    private static void eachWordIsItself() {
        check.sentence("Terms: each valid (len, bits) is a word of its own");
        StringBuilder equal = new StringBuilder("0 0");
        for (String word : Model.SHORT_WORDS) {
            int told = 16 * word.length() + Check.bits(word);
            equal.append(" ").append(told).append("-").append(told);
        }
        check.due("all pairs of equal words", Check.seen(Check.defined("00 11 | *")), equal.toString());
    }

    private static void imageBelowZero() {
        check.sentence("promise 13: k < 0 answers NONE");
        PairExpressions x = Check.defined("02 01 |");
        check.due("k = 0", x.image(1, 0, 0), 0);
        for (int k : BELOW_0) {
            check.due("two images, k = " + k, x.image(1, 0, k), NONE);
            check.due("no image, k = " + k, x.image(1, 1, k), NONE);
        }
    }

    private static void imageAtTheCount() {
        check.sentence("promise 13: there are k or fewer answers NONE");
        PairExpressions x = Check.defined("01 * 20 | 22 |");
        check.due("no image, k = 0", x.image(2, 1, 0), NONE);
        check.due("no image, k = 1", x.image(2, 1, 1), NONE);
        check.due("one image, k = 0", x.image(1, 0, 0), 17);
        check.due("one image, k = 1", x.image(1, 0, 1), NONE);
        check.due("two images, k = 1", x.image(0, 0, 1), 16);
        check.due("two images, k = 2", x.image(0, 0, 2), NONE);
        check.due("two images, k = 3", x.image(0, 0, 3), NONE);
        x = Check.built(ALL);
        check.due("31 images, k = 30", x.image(4, 15, 30), 79);
        check.due("31 images, k = 31", x.image(4, 15, 31), NONE);
        for (int k : ABOVE_30) {
            check.due("31 images, k = " + k, x.image(0, 0, k), NONE);
        }
    }

    private static void imageOrderAcrossLengths() {
        check.sentence("Terms: a shorter word first, of two of one length the one with the smaller bits");
        PairExpressions x = Check.built(ALL);
        int[][] firstAndLast = {{0, 0, 0}, {1, 1, 2}, {2, 3, 6}, {3, 7, 14}, {4, 15, 30}};
        for (int[] of : firstAndLast) {
            int len = of[0];
            check.due("the first of length " + len, x.image(2, 1, of[1]), 16 * len);
            check.due("the last of length " + len, x.image(2, 1, of[2]), 16 * len + (1 << len) - 1);
        }
        x = Check.defined("20 20 . 21 | 22 |");
        check.due("empty, then 1, then 00", x.image(0, 0, 0) + " " + x.image(0, 0, 1) + " " + x.image(0, 0, 2), "0 17 32");
    }

    private static void noQuestionFindsAPair(String told, PairExpressions x) {
        check.due(told + ", all pairs", Check.seen(x), "0 0");
        check.due(told + ", images(1, 0)", x.images(1, 0), 0);
        check.due(told + ", image(1, 0, 0)", x.image(1, 0, 0), NONE);
        check.due(told + ", sources(1, 0)", x.sources(1, 0), 0);
        check.due(told + ", sources(0, 0)", x.sources(0, 0), 0);
        check.due(told + ", related", x.related(0, 0, 0, 0), false);
        check.due(told + ", pairs()", x.pairs(), 0);
        check.due(told + ", domain()", x.domain(), 0);
        check.due(told + ", manyValued()", x.manyValued(), 0);
        check.due(told + ", fixed()", x.fixed(), 0);
        check.due(told + ", twoSteps()", x.twoSteps(), 0);
    }

    private static void noPairAtAll() {
        check.sentence("Terms: at first the relation in use has no pair");
        noQuestionFindsAPair("a new object", new PairExpressions());
        PairExpressions x = Check.built("= 22 00 * !");
        noQuestionFindsAPair("nothing defined yet", x);
    }

    private static void noPairOfTwoShortWords() {
        check.sentence("Terms: a short word is one of at most 4 letters");
        noQuestionFindsAPair("0 and 00000", Check.built(LONG_RIGHT));
        noQuestionFindsAPair("00000 and 0", Check.built(LONG_LEFT));
        noQuestionFindsAPair("00000 and 00000", Check.built(LONG_BOTH));
        noQuestionFindsAPair("in place of all pairs", Check.built(ALL + " " + LONG_BOTH));
    }

    private static void relatedAtFourLetters() {
        check.sentence("promise 11: the first and the last word");
        PairExpressions x = Check.defined("22 10 10 . 10 . 10 . | 12 12 . 12 . 12 . |");
        check.due("empty and empty", x.related(0, 0, 0, 0), true);
        check.due("1111 and 0000", x.related(4, 15, 4, 0), true);
        check.due("1111 and empty", x.related(4, 15, 0, 0), true);
        check.due("0000 and 1111", x.related(4, 0, 4, 15), false);
        check.due("empty and 0000", x.related(0, 0, 4, 0), false);
    }

    private static void imagesAtFourLetters() {
        check.sentence("promise 12: images of four letters count, of five do not");
        check.due("empty with 0 to any number of ones", Check.defined("21 *").images(0, 0), 5);
        check.due("0 with 0000", Check.defined("00 20 . 20 . 20 .").images(1, 0), 1);
        check.due("0 with 00000", Check.built(LONG_RIGHT).images(1, 0), 0);
    }

    private static void sourcesAtFourLetters() {
        check.sentence("promise 14: sources of four letters count, of five do not");
        check.due("0 to any number of ones with empty", Check.defined("12 *").sources(0, 0), 5);
        check.due("0000 with 0", Check.defined("00 02 . 02 . 02 .").sources(1, 0), 1);
        check.due("00000 with 0", Check.built(LONG_LEFT).sources(1, 0), 0);
    }

    private static void pairsAtItsEnds() {
        check.sentence("promise 15: from no pair of two short words to all of them");
        check.due("a new object", new PairExpressions().pairs(), 0);
        check.due("one of four letters each", Check.defined("11 11 . 11 . 11 .").pairs(), 1);
        check.due("one of five letters each", Check.built(LONG_BOTH).pairs(), 0);
        check.due("all", Check.built(ALL).pairs(), 961);
    }

    private static void domainAtLeastOne() {
        check.sentence("promise 16: at least one short word v");
        check.due("none", new PairExpressions().domain(), 0);
        check.due("one of four letters", Check.defined("00 20 . 20 . 20 .").domain(), 1);
        check.due("one of five letters", Check.built(LONG_RIGHT).domain(), 0);
        check.due("one word has two", Check.defined("01 02 |").domain(), 1);
        check.due("the first and the last word", Check.defined("11 11 . 11 . 11 . 22 |").domain(), 2);
        check.due("a left word of five letters", Check.built(LONG_LEFT).domain(), 0);
        check.due("all", Check.built(ALL).domain(), 31);
    }

    private static void manyValuedTwoOrMore() {
        check.sentence("promise 17: two or more short words v");
        check.due("none", new PairExpressions().manyValued(), 0);
        check.due("one", Check.defined("01").manyValued(), 0);
        check.due("one in two ways", Check.defined("01 01 |").manyValued(), 0);
        check.due("two", Check.defined("01 00 |").manyValued(), 1);
        check.due("three", Check.defined("01 00 | 02 |").manyValued(), 1);
        check.due("two for the last word", Check.defined("11 11 . 11 . 11 12 | .").manyValued(), 1);
        check.due("one of four letters and one", Check.defined("00 20 . 20 . 20 . 01 |").manyValued(), 1);
        check.due("one of five letters and one", Check.defined("00 20 . 20 . 20 . 20 . 01 |").manyValued(), 0);
        check.due("two of a left word of five letters", Check.defined("02 02 . 02 . 02 . 02 00 | .").manyValued(), 0);
        check.due("all", Check.built(ALL).manyValued(), 31);
    }

    private static void fixedAtItsEnds() {
        check.sentence("promise 18: from no word to all short words");
        check.due("none", new PairExpressions().fixed(), 0);
        check.due("pairs of other words only", Check.defined("01 10 | 02 | 20 |").fixed(), 0);
        check.due("the first word", Check.defined("22").fixed(), 1);
        check.due("the last word", Check.defined("11 11 . 11 . 11 .").fixed(), 1);
        check.due("a word of five letters", Check.built(LONG_BOTH).fixed(), 0);
        check.due("all", Check.defined("00 11 | *").fixed(), 31);
    }

    private static void twoStepsAtItsEnds() {
        check.sentence("promise 19: from no pair of short words to all of them");
        check.due("none", new PairExpressions().twoSteps(), 0);
        check.due("no way on from the middle", Check.defined("01").twoSteps(), 0);
        check.due("from the first word to itself", Check.defined("22").twoSteps(), 1);
        check.due("from the last word to itself", Check.defined("11 11 . 11 . 11 .").twoSteps(), 1);
        check.due("two ways to one pair", Check.defined("00 01 | 10 | 11 |").twoSteps(), 4);
        check.due("all", Check.built(ALL).twoSteps(), 961);
    }

    private static void twoStepsThroughShortWordsOnly() {
        check.sentence("promise 19: for some short word v");
        check.due("through the empty word", Check.defined("02 21 |").twoSteps(), 1);
        // 0 is related to 0, 00, 000 and 0000, which gives four pairs; a fifth would lead from 0 to 1.
        check.due("through 0000", Check.defined("00 20 * . 01 02 . 02 . 02 . |").twoSteps(), 5);
        check.due("through 00000", Check.defined("00 20 * . 01 02 . 02 . 02 . 02 . |").twoSteps(), 4);
        check.due("from 00000", Check.defined("00 02 . 02 . 02 . 02 . 00 |").twoSteps(), 1);
        check.due("to 00000", Check.defined("00 20 . 20 . 20 . 20 . 00 |").twoSteps(), 1);
    }
}
