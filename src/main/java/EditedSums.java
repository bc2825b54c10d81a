/**
 * A text of numbers, operators and brackets that is edited, and the values of
 * any parts of it that are expressions.
 */
public final class EditedSums {
    private static final int CAPACITY = 60;
    /** One level for what stands in no bracket, and one for each OPEN there can be. */
    private static final int LEVELS = CAPACITY + 1;

    private static final int NUMBER = 0;
    private static final int MINUS = 2;
    private static final int TIMES = 3;
    private static final int MOST = 4;
    private static final int OPEN = 5;
    private static final int CLOSE = 6;

    private static final int LEAST_INT = -2147483648;

    private final int[] kinds = new int[CAPACITY];
    /** 0 for every token that is no NUMBER, so that numberAt needs no test of its own. */
    private final int[] numbers = new int[CAPACITY];
    private int count;

    // Working room of valueOf, one entry for each level of brackets. It holds
    // nothing from one call to the next. The value so far of a level is
    // sum + sign * (product * most).
    private final int[] sums = new int[LEVELS];
    private final int[] signs = new int[LEVELS];
    private final int[] products = new int[LEVELS];
    private final int[] mosts = new int[LEVELS];

    public EditedSums() {
        count = 0;
    }

    public int insert(int place, int kind, int number) {
        if (!isGap(place)) {
            return -1;
        }
        if (kind < NUMBER || kind > CLOSE) {
            return -2;
        }
        if (count >= CAPACITY) {
            return -3;
        }
        openGap(place, 1);
        kinds[place] = kind;
        numbers[place] = kind == NUMBER ? number : 0;
        return count;
    }

    public int delete(int i, int j) {
        if (!isPart(i, j)) {
            return -1;
        }
        takeOut(i, j);
        return count;
    }

    public int set(int place, int number) {
        if (!isPlace(place)) {
            return -1;
        }
        if (kinds[place] != NUMBER) {
            return -2;
        }
        numbers[place] = number;
        return 1;
    }

    public int copy(int i, int j, int place) {
        if (!isPart(i, j)) {
            return -1;
        }
        if (!isGap(place)) {
            return -2;
        }
        int width = j - i;
        if (count + width > CAPACITY) {
            return -3;
        }
        openGap(place, width);
        for (int k = 0; k < width; k++) {
            // What stood at the place or behind it was moved by the gap.
            int from = i + k < place ? i + k : i + k + width;
            moveToken(from, place + k);
        }
        return count;
    }

    public int fold(int i, int j) {
        if (!isPart(i, j)) {
            return -1;
        }
        if (!isSound(i, j)) {
            return -2;
        }
        numbers[i] = valueOf(i, j);
        kinds[i] = NUMBER;
        takeOut(i + 1, j);
        return count;
    }

    public int clear() {
        int before = count;
        count = 0;
        return before;
    }

    public int size() {
        return count;
    }

    public int kindAt(int place) {
        return isPlace(place) ? kinds[place] : -1;
    }

    public int numberAt(int place) {
        return isPlace(place) ? numbers[place] : 0;
    }

    public int isExpression(int i, int j) {
        if (!isPart(i, j)) {
            return -1;
        }
        return isSound(i, j) ? 1 : 0;
    }

    public int value(int i, int j) {
        if (!isPart(i, j) || !isSound(i, j)) {
            return 0;
        }
        return valueOf(i, j);
    }

    public int longest(int i) {
        if (!isPlace(i)) {
            return -1;
        }
        for (int j = count; j > i; j--) {
            if (isSound(i, j)) {
                return j;
            }
        }
        return -2;
    }

    public int endings(int i) {
        return isPlace(i) ? countEndings(i) : -1;
    }

    public int expressions() {
        int all = 0;
        for (int i = 0; i < count; i++) {
            all += countEndings(i);
        }
        return all;
    }

    public int best(int i) {
        if (!isPlace(i)) {
            return 0;
        }
        boolean found = false;
        int greatest = 0;
        for (int j = i + 1; j <= count; j++) {
            if (isSound(i, j)) {
                int candidate = valueOf(i, j);
                // The first one counts even if it is below 0.
                greatest = found ? greater(greatest, candidate) : candidate;
                found = true;
            }
        }
        return greatest;
    }

    public int partner(int place) {
        if (!isPlace(place)) {
            return -1;
        }
        if (kinds[place] == OPEN) {
            return closeBehind(place);
        }
        if (kinds[place] == CLOSE) {
            return openBefore(place);
        }
        return -3;
    }

    public int depth(int i, int j) {
        if (!isPart(i, j)) {
            return -1;
        }
        int here = 0;
        int deepest = 0;
        for (int place = i; place < j; place++) {
            if (kinds[place] == OPEN) {
                here++;
            } else if (kinds[place] == CLOSE) {
                here--;
            }
            deepest = greater(deepest, here);
        }
        return deepest;
    }

    private boolean isPlace(int place) {
        return place >= 0 && place < count;
    }

    /** Whether a token can be put before the one at this place, or at the end. */
    private boolean isGap(int place) {
        return place >= 0 && place <= count;
    }

    private boolean isPart(int i, int j) {
        return i >= 0 && j <= count && i < j;
    }

    private static int greater(int a, int b) {
        return a > b ? a : b;
    }

    private void moveToken(int from, int to) {
        kinds[to] = kinds[from];
        numbers[to] = numbers[from];
    }

    /** The caller has seen that there is room for width tokens more. */
    private void openGap(int place, int width) {
        for (int k = count - 1; k >= place; k--) {
            moveToken(k, k + width);
        }
        count += width;
    }

    private void takeOut(int i, int j) {
        int width = j - i;
        for (int k = j; k < count; k++) {
            moveToken(k, k - width);
        }
        count -= width;
    }

    /**
     * Whether a part is an expression. How operators bind has no say in this:
     * it is enough that operands and operators take turns and brackets match.
     */
    private boolean isSound(int i, int j) {
        int open = 0;
        boolean wantsOperand = true;
        for (int place = i; place < j; place++) {
            int kind = kinds[place];
            boolean beginsOperand = kind == NUMBER || kind == OPEN;
            if (beginsOperand != wantsOperand) {
                return false;
            }
            if (kind == OPEN) {
                open++;
            } else if (kind == CLOSE) {
                open--;
                if (open < 0) {
                    return false;
                }
            } else {
                wantsOperand = kind != NUMBER;
            }
        }
        return open == 0 && !wantsOperand;
    }

    private int countEndings(int i) {
        int found = 0;
        for (int j = i + 1; j <= count; j++) {
            if (isSound(i, j)) {
                found++;
            }
        }
        return found;
    }

    /**
     * The value of a part that isSound has found to be an expression; so each
     * CLOSE has its OPEN before it, and level stays from 0 to CAPACITY.
     */
    private int valueOf(int i, int j) {
        int level = 0;
        beginLevel(level);
        for (int place = i; place < j; place++) {
            int kind = kinds[place];
            if (kind == NUMBER) {
                takeOperand(level, numbers[place]);
            } else if (kind == OPEN) {
                level++;
                beginLevel(level);
            } else if (kind == CLOSE) {
                int inner = levelValue(level);
                level--;
                takeOperand(level, inner);
            } else {
                takeOperator(level, kind);
            }
        }
        return levelValue(level);
    }

    /** Each entry begins as the number that changes nothing in its operation. */
    private void beginLevel(int level) {
        sums[level] = 0;
        signs[level] = 1;
        products[level] = 1;
        mosts[level] = LEAST_INT;
    }

    /** MOST binds most, so an operand always joins the run of MOSTs first. */
    private void takeOperand(int level, int operand) {
        mosts[level] = greater(mosts[level], operand);
    }

    /** An operator ends the runs of those that bind more than it does. */
    private void takeOperator(int level, int kind) {
        if (kind == MOST) {
            return;
        }
        products[level] *= mosts[level];
        mosts[level] = LEAST_INT;
        if (kind == TIMES) {
            return;
        }
        sums[level] += signs[level] * products[level];
        products[level] = 1;
        signs[level] = kind == MINUS ? -1 : 1;
    }

    private int levelValue(int level) {
        return sums[level] + signs[level] * (products[level] * mosts[level]);
    }

    private int closeBehind(int place) {
        int open = 0;
        for (int k = place + 1; k < count; k++) {
            if (kinds[k] == OPEN) {
                open++;
            } else if (kinds[k] == CLOSE) {
                if (open == 0) {
                    return k;
                }
                open--;
            }
        }
        return -2;
    }

    private int openBefore(int place) {
        int closed = 0;
        for (int k = place - 1; k >= 0; k--) {
            if (kinds[k] == CLOSE) {
                closed++;
            } else if (kinds[k] == OPEN) {
                if (closed == 0) {
                    return k;
                }
                closed--;
            }
        }
        return -2;
    }
}
