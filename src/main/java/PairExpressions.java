/**
 * Relations between words over the letters 0 and 1, made on a stack of expressions over pairs of letters.
 *
 * A word is known inside by its number, its place in the order of words: 0 is the empty word, 30 is 1111.
 * A set of words is an int with bit n set for the word n. A relation is 31 such sets, one for each left word.
 * Only pairs of two short words are kept: no call asks about a longer word, and a part of a short word is
 * short, so a longer word can't come into an answer through cat or star either.
 */
public final class PairExpressions {
    public static final int BAD_ARG = -1;
    public static final int FULL = -2;
    public static final int TOO_FEW = -3;
    public static final int NONE = -4;

    private static final int MAX_LENGTH = 4;
    private static final int WORDS = 31;
    private static final int NO_LETTER = 2;
    private static final int MAX_DEPTH = 6;
    private static final int MAX_STEPS = 18;
    private static final int MAX_PAIRS = 9;
    private static final int STACK_ROWS = MAX_DEPTH * WORDS;
    private static final int STAR_DOUBLINGS = 3;

    private final int[] stack = new int[STACK_ROWS];
    private final int[] inUse = new int[WORDS];
    private final int[] made = new int[WORDS];
    private int height;
    private int stepsTaken;
    private int pairsTaken;

    public PairExpressions() {
        height = 0;
        stepsTaken = 0;
        pairsTaken = 0;
    }

    public int pair(int x, int y) {
        if (x < 0 || x > NO_LETTER || y < 0 || y > NO_LETTER) {
            return BAD_ARG;
        }
        if (stepsTaken >= MAX_STEPS || height >= MAX_DEPTH || pairsTaken >= MAX_PAIRS) {
            return FULL;
        }
        int left = letterWord(x);
        int right = letterWord(y);
        clearMade();
        made[left] = 1 << right;
        height++;
        pairsTaken++;
        return putMadeOnTop();
    }

    public int cat() {
        if (stepsTaken >= MAX_STEPS) {
            return FULL;
        }
        if (height < 2) {
            return TOO_FEW;
        }
        int y = topStart();
        makeCat(y - WORDS, y);
        height--;
        return putMadeOnTop();
    }

    public int alt() {
        if (stepsTaken >= MAX_STEPS) {
            return FULL;
        }
        if (height < 2) {
            return TOO_FEW;
        }
        int y = topStart();
        int x = y - WORDS;
        for (int u = 0; u < WORDS; u++) {
            made[u] = stack[x + u] | stack[y + u];
        }
        height--;
        return putMadeOnTop();
    }

    public int star() {
        if (stepsTaken >= MAX_STEPS) {
            return FULL;
        }
        if (height < 1) {
            return TOO_FEW;
        }
        int top = topStart();
        // Two short words have at most 8 letters together, so at most 8 pairs of X other than that of two empty
        // words stand one after another: with the empty pair put to X, three doublings reach them all.
        stack[top] |= 1;
        for (int doubling = 0; doubling < STAR_DOUBLINGS; doubling++) {
            makeCat(top, top);
            copyMadeTo(top);
        }
        return putMadeOnTop();
    }

    public int turn() {
        if (stepsTaken >= MAX_STEPS) {
            return FULL;
        }
        if (height < 1) {
            return TOO_FEW;
        }
        int top = topStart();
        makeTurn(top);
        return putMadeOnTop();
    }

    public int steps() {
        return stepsTaken;
    }

    public int depth() {
        return height;
    }

    public void discard() {
        emptyStack();
    }

    public int define() {
        if (height < 1) {
            return TOO_FEW;
        }
        int top = topStart();
        for (int u = 0; u < WORDS; u++) {
            inUse[u] = stack[top + u];
        }
        int before = height;
        emptyStack();
        return before;
    }

    public boolean related(int lenU, int bitsU, int lenV, int bitsV) {
        if (!isValid(lenU, bitsU) || !isValid(lenV, bitsV)) {
            return false;
        }
        int u = wordNumber(lenU, bitsU);
        int v = wordNumber(lenV, bitsV);
        return holds(inUse[u], v);
    }

    public int images(int len, int bits) {
        if (!isValid(len, bits)) {
            return BAD_ARG;
        }
        int u = wordNumber(len, bits);
        return sizeOf(inUse[u]);
    }

    public int image(int len, int bits, int k) {
        if (!isValid(len, bits)) {
            return BAD_ARG;
        }
        int u = wordNumber(len, bits);
        int before = 0;
        for (int v = 0; v < WORDS; v++) {
            if (holds(inUse[u], v)) {
                if (before == k) {
                    return lengthAndBits(v);
                }
                before++;
            }
        }
        return NONE;
    }

    public int sources(int len, int bits) {
        if (!isValid(len, bits)) {
            return BAD_ARG;
        }
        int v = wordNumber(len, bits);
        int count = 0;
        for (int u = 0; u < WORDS; u++) {
            if (holds(inUse[u], v)) {
                count++;
            }
        }
        return count;
    }

    public int pairs() {
        int count = 0;
        for (int u = 0; u < WORDS; u++) {
            count += sizeOf(inUse[u]);
        }
        return count;
    }

    public int domain() {
        return leftWordsWithAtLeast(1);
    }

    public int manyValued() {
        return leftWordsWithAtLeast(2);
    }

    public int fixed() {
        int count = 0;
        for (int u = 0; u < WORDS; u++) {
            if (holds(inUse[u], u)) {
                count++;
            }
        }
        return count;
    }

    public int twoSteps() {
        int count = 0;
        for (int u = 0; u < WORDS; u++) {
            int reached = 0;
            for (int v = 0; v < WORDS; v++) {
                if (holds(inUse[u], v)) {
                    reached |= inUse[v];
                }
            }
            count += sizeOf(reached);
        }
        return count;
    }

    private int leftWordsWithAtLeast(int least) {
        int count = 0;
        for (int u = 0; u < WORDS; u++) {
            if (sizeOf(inUse[u]) >= least) {
                count++;
            }
        }
        return count;
    }

    private void emptyStack() {
        height = 0;
        stepsTaken = 0;
        pairsTaken = 0;
    }

    private int topStart() {
        return (height - 1) * WORDS;
    }

    private void clearMade() {
        for (int u = 0; u < WORDS; u++) {
            made[u] = 0;
        }
    }

    private void copyMadeTo(int start) {
        for (int u = 0; u < WORDS; u++) {
            stack[start + u] = made[u];
        }
    }

    private int putMadeOnTop() {
        int top = topStart();
        copyMadeTo(top);
        stepsTaken++;
        return height;
    }

    private void makeTurn(int x) {
        clearMade();
        for (int u = 0; u < WORDS; u++) {
            for (int v = 0; v < WORDS; v++) {
                if (holds(stack[x + u], v)) {
                    made[v] |= 1 << u;
                }
            }
        }
    }

    private void makeCat(int x, int y) {
        clearMade();
        for (int front = 0; front < WORDS; front++) {
            int room = wordsThatFitBehind(front);
            for (int back = 0; back < room; back++) {
                int whole = joined(front, back);
                made[whole] |= allJoined(stack[x + front], stack[y + back]);
            }
        }
    }

    private static int allJoined(int fronts, int backs) {
        int wholes = 0;
        for (int front = 0; front < WORDS; front++) {
            if (holds(fronts, front)) {
                int room = wordsThatFitBehind(front);
                for (int back = 0; back < room; back++) {
                    if (holds(backs, back)) {
                        wholes |= 1 << joined(front, back);
                    }
                }
            }
        }
        return wholes;
    }

    // Why this sum: a word's number plus 1, written in binary, is a 1 followed by the word's letters.
    private static int joined(int front, int back) {
        return (front << lengthOf(back)) + back;
    }

    private static int wordsThatFitBehind(int front) {
        int longest = MAX_LENGTH - lengthOf(front);
        return (2 << longest) - 1;
    }

    private static int lengthOf(int word) {
        int len = 0;
        while (len < MAX_LENGTH && word >= (2 << len) - 1) {
            len++;
        }
        return len;
    }

    private static int letterWord(int letter) {
        return letter == NO_LETTER ? 0 : wordNumber(1, letter);
    }

    private static int wordNumber(int len, int bits) {
        return (1 << len) - 1 + bits;
    }

    private static int lengthAndBits(int word) {
        int len = lengthOf(word);
        int bits = word - wordNumber(len, 0);
        return 16 * len + bits;
    }

    private static boolean isValid(int len, int bits) {
        return len >= 0 && len <= MAX_LENGTH && bits >= 0 && bits < (1 << len);
    }

    private static boolean holds(int set, int word) {
        return ((set >> word) & 1) != 0;
    }

    private static int sizeOf(int set) {
        int size = 0;
        for (int word = 0; word < WORDS; word++) {
            if (holds(set, word)) {
                size++;
            }
        }
        return size;
    }
}
