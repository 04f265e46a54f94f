/** Promises 11 to 19 on ordinary inputs: the questions about the relation in use. */
public final class QuestionsTest {
    private static final int BAD_ARG = PairExpressions.BAD_ARG;
    private static final int NONE = PairExpressions.NONE;
    /** Equal words with zeros put in on the right. */
    private static final String ZEROS_PUT_IN = "00 11 | 20 | *";
    private static final String ALL = "02 12 | * 20 21 | * .";
    private static final Check check = new Check("QuestionsTest");

    public static void main(String[] args) {
        relatedWords();
        imagesCounted();
        imagesInOrder();
        sourcesCounted();
        pairsCounted();
        domainCounted();
        manyValuedCounted();
        fixedCounted();
        twoStepsCounted();
        questionsChangeNothing();
        exampleOfTheReadme();
        check.end();
    }

    private static void relatedWords() {
        PairExpressions x = Check.defined(ZEROS_PUT_IN);
        check.due("promise 11: empty words", Check.related(x, "", ""), true);
        check.due("promise 11: 1 010", Check.related(x, "1", "010"), true);
        check.due("promise 11: 010 1", Check.related(x, "010", "1"), false);
        check.due("promise 11: 1 011", Check.related(x, "1", "011"), false);
        check.due("promise 11: 0 00", Check.related(x, "0", "00"), true);
        check.due("promise 11: 0000 0000", Check.related(x, "0000", "0000"), true);
        check.due("promise 11: 1111 1111", Check.related(x, "1111", "1111"), true);
        check.due("promise 11: 10 1000", Check.related(x, "10", "1000"), true);
        check.due("promise 11: 01 1000", Check.related(x, "01", "1000"), false);
    }

    private static void imagesCounted() {
        PairExpressions x = Check.defined("01 02 | 11 |");
        check.due("promise 12: of 0", x.images(1, 0), 2);
        check.due("promise 12: of 1", x.images(1, 1), 1);
        check.due("promise 12: of the empty word", x.images(0, 0), 0);
        check.due("promise 12: of 00", x.images(2, 0), 0);
        x = Check.defined(ZEROS_PUT_IN);
        check.due("promise 12: of the empty word, zeros", x.images(0, 0), 5);
        check.due("promise 12: of 11, zeros", x.images(2, 3), 10);
        check.due("promise 12: of 1111, zeros", x.images(4, 15), 1);
        x = Check.defined("20 *");
        check.due("promise 12: long images do not count", x.images(0, 0), 5);
    }

    private static void imagesInOrder() {
        PairExpressions x = Check.defined(ZEROS_PUT_IN);
        int[] ofOneOne = {16 * 2 + 3, 16 * 3 + 3, 16 * 3 + 5, 16 * 3 + 6,
            16 * 4 + 3, 16 * 4 + 5, 16 * 4 + 6, 16 * 4 + 9, 16 * 4 + 10, 16 * 4 + 12};
        for (int k = 0; k < ofOneOne.length; k++) {
            check.due("promise 13: image " + k + " of 11", x.image(2, 3, k), ofOneOne[k]);
        }
        check.due("promise 13: image 10 of 11", x.image(2, 3, 10), NONE);
        x = Check.defined(ALL);
        int k = 0;
        for (int len = 0; len <= 4; len++) {
            for (int bits = 0; bits < 1 << len; bits++) {
                check.due("promise 13: image " + k + " of all", x.image(3, 5, k), 16 * len + bits);
                k++;
            }
        }
    }

    private static void sourcesCounted() {
        PairExpressions x = Check.defined("01 21 | 12 |");
        check.due("promise 14: of 1", x.sources(1, 1), 2);
        check.due("promise 14: of 0", x.sources(1, 0), 0);
        check.due("promise 14: of the empty word", x.sources(0, 0), 1);
        check.due("promise 14: of 11", x.sources(2, 3), 0);
        x = Check.defined(ZEROS_PUT_IN);
        check.due("promise 14: of 000", x.sources(3, 0), 4);
        check.due("promise 14: of 1111", x.sources(4, 15), 1);
        check.due("promise 14: of 0110", x.sources(4, 6), 4);
        x = Check.defined("02 *");
        check.due("promise 14: long sources do not count", x.sources(0, 0), 5);
    }

    private static void pairsCounted() {
        check.due("promise 15: all", Check.defined(ALL).pairs(), 961);
        check.due("promise 15: equal words", Check.defined("00 11 | *").pairs(), 31);
        check.due("promise 15: zeros put in", Check.defined(ZEROS_PUT_IN).pairs(), 88);
        check.due("promise 15: long right words do not count", Check.defined("00 20 . *").pairs(), 3);
        check.due("promise 15: long left words do not count", Check.defined("00 02 . *").pairs(), 3);
    }

    private static void domainCounted() {
        check.due("promise 16: all", Check.defined(ALL).domain(), 31);
        check.due("promise 16: one word with two images", Check.defined("01 02 |").domain(), 1);
        check.due("promise 16: two words with one image", Check.defined("01 11 |").domain(), 2);
        check.due("promise 16: long images do not count", Check.defined("00 20 . *").domain(), 3);
        check.due("promise 16: the empty word and 1111", Check.defined("10 10 . 10 . 10 . *").domain(), 2);
    }

    private static void manyValuedCounted() {
        check.due("promise 17: all", Check.defined(ALL).manyValued(), 31);
        check.due("promise 17: two images", Check.defined("01 02 |").manyValued(), 1);
        check.due("promise 17: one image each", Check.defined("01 11 |").manyValued(), 0);
        check.due("promise 17: three images", Check.defined("01 02 | 00 | 11 |").manyValued(), 1);
        check.due("promise 17: zeros put in", Check.defined(ZEROS_PUT_IN).manyValued(), 15);
        check.due("promise 17: a long second image does not count",
            Check.defined("01 20 20 . 20 . 20 . 20 . 02 . |").manyValued(), 0);
    }

    private static void fixedCounted() {
        check.due("promise 18: all", Check.defined(ALL).fixed(), 31);
        check.due("promise 18: equal words", Check.defined("00 11 | *").fixed(), 31);
        check.due("promise 18: letters changed", Check.defined("01 10 | *").fixed(), 1);
        check.due("promise 18: one letter kept", Check.defined("00 10 |").fixed(), 1);
        check.due("promise 18: the last word", Check.defined("11 11 . 11 . 11 .").fixed(), 1);
        check.due("promise 18: none", Check.defined("02 21 |").fixed(), 0);
    }

    private static void twoStepsCounted() {
        check.due("promise 19: all", Check.defined(ALL).twoSteps(), 961);
        check.due("promise 19: there and back", Check.defined("01 10 |").twoSteps(), 2);
        check.due("promise 19: no way on", Check.defined("01").twoSteps(), 0);
        check.due("promise 19: stays", Check.defined("00").twoSteps(), 1);
        check.due("promise 19: two ways to one pair count once", Check.defined("00 01 | 10 | 11 |").twoSteps(), 4);
        check.due("promise 19: through the empty word", Check.defined("02 21 |").twoSteps(), 1);
        check.due("promise 19: not one step alone", Check.defined("01 12 |").twoSteps(), 1);
        check.due("promise 19: doubled twice", Check.defined("00 20 . *").twoSteps(), 2);
        // 0 goes to 0, 00 and so on, and 00000 goes to 1: from 0 to 1 leads just the long word 00000.
        check.due("promise 19: not through a long word",
            Check.defined("00 20 * . 01 02 . 02 . 02 . 02 . |").twoSteps(), 4);
    }

    private static void questionsChangeNothing() {
        PairExpressions x = Check.defined(ZEROS_PUT_IN);
        Check.build(x, "01 10");
        for (int round = 0; round < 3; round++) {
            check.due("pairs() again", x.pairs(), 88);
            check.due("domain() again", x.domain(), 31);
            check.due("manyValued() again", x.manyValued(), 15);
            check.due("fixed() again", x.fixed(), 31);
            check.due("twoSteps() again", x.twoSteps(), 88);
            check.due("images again", x.images(2, 3), 10);
            check.due("image again", x.image(2, 3, 4), 67);
            check.due("sources again", x.sources(3, 0), 4);
            check.due("refused images again", x.images(9, 9), BAD_ARG);
            check.due("steps() again", x.steps(), 2);
            check.due("depth() again", x.depth(), 2);
        }
        check.due("the stack is as it was", Check.build(x, ". ="), 1);
        check.due("and what is on it", Check.related(x, "01", "10"), true);
    }

    private static void exampleOfTheReadme() {
        PairExpressions x = new PairExpressions();
        check.due("README: pair(0, 0)", x.pair(0, 0), 1);
        check.due("README: pair(1, 1)", x.pair(1, 1), 2);
        check.due("README: alt()", x.alt(), 1);
        check.due("README: pair(2, 0)", x.pair(2, 0), 2);
        check.due("README: alt() again", x.alt(), 1);
        check.due("README: star()", x.star(), 1);
        check.due("README: define()", x.define(), 1);
        check.due("README: related(1, 1, 3, 2)", x.related(1, 1, 3, 2), true);
        check.due("README: images(2, 3)", x.images(2, 3), 10);
        check.due("README: image(2, 3, 1)", x.image(2, 3, 1), 51);
    }
}
