import java.util.ArrayList;
import java.util.List;

/**
 * The document once more, told the slow way: expressions stay trees, and whether a pair of words is in a
 * relation is found by cutting the words in every place. Nothing here is shared with the program.
 */
final class Model {
    static final List<String> SHORT_WORDS = shortWords();

    private Expression inUse = null;
    private List<Expression> stack = new ArrayList<>();
    private int steps = 0;
    private int pairsAccepted = 0;

    private enum Kind { PAIR, CAT, ALT, STAR, TURN }

    private static final class Expression {
        final Kind kind;
        final Expression x;
        final Expression y;
        final String left;
        final String right;
        /** 0 not looked at, 1 in the relation, 2 not in it; by the numbers of the two words. */
        final byte[] known = new byte[31 * 31];

        Expression(Kind kind, Expression x, Expression y, String left, String right) {
            this.kind = kind;
            this.x = x;
            this.y = y;
            this.left = left;
            this.right = right;
        }

        boolean has(String u, String v) {
            int place = SHORT_WORDS.indexOf(u) * 31 + SHORT_WORDS.indexOf(v);
            if (known[place] == 0) {
                known[place] = (byte) (find(u, v) ? 1 : 2);
            }
            return known[place] == 1;
        }

        private boolean find(String u, String v) {
            return switch (kind) {
                case PAIR -> u.equals(left) && v.equals(right);
                case ALT -> x.has(u, v) || y.has(u, v);
                case TURN -> x.has(v, u);
                case CAT -> hasCut(u, v, y, true);
                case STAR -> u.isEmpty() && v.isEmpty() || hasCut(u, v, this, false);
            };
        }

        private boolean hasCut(String u, String v, Expression rest, boolean emptyFront) {
            for (int i = 0; i <= u.length(); i++) {
                for (int j = 0; j <= v.length(); j++) {
                    if ((emptyFront || i + j > 0)
                        && x.has(u.substring(0, i), v.substring(0, j)) && rest.has(u.substring(i), v.substring(j))) {
                        return true;
                    }
                }
            }
            return false;
        }
    }

    private static List<String> shortWords() {
        List<String> words = new ArrayList<>();
        words.add("");
        for (int n = 0; words.size() < 31; n++) {
            words.add(words.get(n) + "0");
            words.add(words.get(n) + "1");
        }
        return words;
    }

    private static String letter(int x) {
        return x == 2 ? "" : "" + x;
    }

    /** The word, or null if the two numbers are not valid. */
    static String word(int len, int bits) {
        for (String word : SHORT_WORDS) {
            if (word.length() == len && Check.bits(word) == bits) {
                return word;
            }
        }
        return null;
    }

    int pair(int x, int y) {
        if (x < 0 || x > 2 || y < 0 || y > 2) return -1;
        if (steps == 18) return -2;
        if (stack.size() == 6) return -2;
        if (pairsAccepted == 9) return -2;
        pairsAccepted++;
        return push(new Expression(Kind.PAIR, null, null, letter(x), letter(y)));
    }

    int cat() {
        return two(Kind.CAT);
    }

    int alt() {
        return two(Kind.ALT);
    }

    int star() {
        return one(Kind.STAR);
    }

    int turn() {
        return one(Kind.TURN);
    }

    private int two(Kind kind) {
        if (steps == 18) return -2;
        if (stack.size() < 2) return -3;
        Expression y = pop();
        Expression x = pop();
        return push(new Expression(kind, x, y, null, null));
    }

    private int one(Kind kind) {
        if (steps == 18) return -2;
        if (stack.isEmpty()) return -3;
        return push(new Expression(kind, pop(), null, null, null));
    }

    private Expression pop() {
        return stack.remove(stack.size() - 1);
    }

    private int push(Expression made) {
        steps++;
        stack.add(made);
        return stack.size();
    }

    int steps() {
        return steps;
    }

    int depth() {
        return stack.size();
    }

    void discard() {
        stack = new ArrayList<>();
        steps = 0;
        pairsAccepted = 0;
    }

    int define() {
        if (stack.isEmpty()) return -3;
        int before = stack.size();
        inUse = pop();
        discard();
        return before;
    }

    private boolean has(String u, String v) {
        return inUse != null && inUse.has(u, v);
    }

    private List<String> imagesOf(String u) {
        return SHORT_WORDS.stream().filter(v -> has(u, v)).toList();
    }

    boolean related(int lenU, int bitsU, int lenV, int bitsV) {
        String u = word(lenU, bitsU);
        String v = word(lenV, bitsV);
        return u != null && v != null && has(u, v);
    }

    int images(int len, int bits) {
        String u = word(len, bits);
        return u == null ? -1 : imagesOf(u).size();
    }

    int image(int len, int bits, int k) {
        String u = word(len, bits);
        if (u == null) return -1;
        List<String> all = imagesOf(u);
        if (k < 0 || k >= all.size()) return -4;
        return 16 * all.get(k).length() + Check.bits(all.get(k));
    }

    int sources(int len, int bits) {
        String v = word(len, bits);
        return v == null ? -1 : (int) SHORT_WORDS.stream().filter(u -> has(u, v)).count();
    }

    int pairs() {
        return SHORT_WORDS.stream().mapToInt(u -> imagesOf(u).size()).sum();
    }

    int domain() {
        return (int) SHORT_WORDS.stream().filter(u -> imagesOf(u).size() >= 1).count();
    }

    int manyValued() {
        return (int) SHORT_WORDS.stream().filter(u -> imagesOf(u).size() >= 2).count();
    }

    int fixed() {
        return (int) SHORT_WORDS.stream().filter(u -> has(u, u)).count();
    }

    int twoSteps() {
        int count = 0;
        for (String u : SHORT_WORDS) {
            List<String> between = imagesOf(u);
            for (String w : SHORT_WORDS) {
                if (between.stream().anyMatch(v -> has(v, w))) {
                    count++;
                }
            }
        }
        return count;
    }
}
