import java.util.ArrayList;
import java.util.List;

/**
 * Compares the class with a model that says the document's words as plainly as
 * can be: on every short text, and on long runs of calls that are always the same.
 */
public final class EditedSumsAgainstModel {
    private static final int[] EDGE_NUMBERS = {0, 1, -1, 2, 3, -7, 65536, Integer.MIN_VALUE, Integer.MAX_VALUE};
    private static final int[] EDGE_PLACES = {-1, Integer.MIN_VALUE, Integer.MAX_VALUE, 60, 61};
    private static final String[] CALLS = {"insert", "delete", "set", "copy", "fold", "clear", "size",
        "kindAt", "numberAt", "isExpression", "value", "longest", "endings", "expressions", "best",
        "partner", "depth"};
    private static final int[] PARAMETERS = {3, 2, 2, 3, 2, 0, 0, 1, 1, 2, 2, 1, 1, 0, 1, 1, 2};

    /** The text as a list, and the expressions straight from their three forms. */
    private static final class Model {
        private final List<int[]> tokens = new ArrayList<>();
        /** The value of each part, null where there is none; made anew behind every edit. */
        private Integer[][] values = new Integer[0][0];
        private boolean stale = true;

        private int kind(int place) {
            return tokens.get(place)[0];
        }

        private boolean part(int i, int j) {
            return i >= 0 && j <= tokens.size() && i < j;
        }

        private boolean place(int p) {
            return p >= 0 && p < tokens.size();
        }

        private Integer valueOf(int i, int j) {
            if (stale) {
                int n = tokens.size();
                values = new Integer[n + 1][n + 1];
                for (int width = 1; width <= n; width++) {
                    for (int from = 0; from + width <= n; from++) {
                        values[from][from + width] = fromForms(from, from + width);
                    }
                }
                stale = false;
            }
            return values[i][j];
        }

        private Integer fromForms(int i, int j) {
            if (j - i == 1) {
                return kind(i) == 0 ? tokens.get(i)[1] : null;
            }
            if (kind(i) == 5 && kind(j - 1) == 6 && j - i > 2 && values[i + 1][j - 1] != null) {
                return values[i + 1][j - 1];
            }
            int at = -1;
            for (int k = i + 1; k < j - 1; k++) {
                boolean splits = kind(k) >= 1 && kind(k) <= 4 && values[i][k] != null && values[k + 1][j] != null;
                // The last to be put together: what binds least, and of those the one furthest right.
                if (splits && (at < 0 || binding(kind(k)) <= binding(kind(at)))) {
                    at = k;
                }
            }
            return at < 0 ? null : join(kind(at), values[i][at], values[at + 1][j]);
        }

        private static int binding(int kind) {
            return kind == 4 ? 3 : kind == 3 ? 2 : 1;
        }

        private static int join(int kind, int a, int b) {
            switch (kind) {
                case 1: return (int) ((long) a + b);
                case 2: return (int) ((long) a - b);
                case 3: return (int) ((long) a * b);
                default: return Math.max(a, b);
            }
        }

        int call(int which, int a, int b, int c) {
            stale = stale || which <= 5;
            switch (which) {
                case 0: return insert(a, b, c);
                case 1: return delete(a, b);
                case 2: return set(a, b);
                case 3: return copy(a, b, c);
                case 4: return fold(a, b);
                case 5: return clear();
                case 6: return tokens.size();
                case 7: return place(a) ? kind(a) : -1;
                case 8: return place(a) && kind(a) == 0 ? tokens.get(a)[1] : 0;
                case 9: return !part(a, b) ? -1 : valueOf(a, b) != null ? 1 : 0;
                case 10: return part(a, b) && valueOf(a, b) != null ? valueOf(a, b) : 0;
                case 11: return !place(a) ? -1 : ends(a).isEmpty() ? -2 : ends(a).get(ends(a).size() - 1);
                case 12: return place(a) ? ends(a).size() : -1;
                case 13: return expressions();
                case 14: return best(a);
                case 15: return partner(a);
                default: return depth(a, b);
            }
        }

        private int insert(int place, int kind, int number) {
            if (place < 0 || place > tokens.size()) return -1;
            if (kind < 0 || kind > 6) return -2;
            if (tokens.size() == 60) return -3;
            tokens.add(place, new int[] {kind, number});
            return tokens.size();
        }

        private int delete(int i, int j) {
            if (!part(i, j)) return -1;
            tokens.subList(i, j).clear();
            return tokens.size();
        }

        private int set(int place, int number) {
            if (!place(place)) return -1;
            if (kind(place) != 0) return -2;
            tokens.set(place, new int[] {0, number});
            return 1;
        }

        private int copy(int i, int j, int place) {
            if (!part(i, j)) return -1;
            if (place < 0 || place > tokens.size()) return -2;
            if (tokens.size() + j - i > 60) return -3;
            tokens.addAll(place, new ArrayList<>(tokens.subList(i, j)));
            return tokens.size();
        }

        private int fold(int i, int j) {
            if (!part(i, j)) return -1;
            if (valueOf(i, j) == null) return -2;
            int value = valueOf(i, j);
            tokens.subList(i, j).clear();
            tokens.add(i, new int[] {0, value});
            stale = true;
            return tokens.size();
        }

        private int clear() {
            int before = tokens.size();
            tokens.clear();
            return before;
        }

        private List<Integer> ends(int i) {
            List<Integer> found = new ArrayList<>();
            for (int j = i + 1; j <= tokens.size(); j++) {
                if (valueOf(i, j) != null) found.add(j);
            }
            return found;
        }

        private int expressions() {
            int all = 0;
            for (int i = 0; i < tokens.size(); i++) all += ends(i).size();
            return all;
        }

        private int best(int i) {
            if (!place(i)) return 0;
            return ends(i).stream().mapToInt(j -> valueOf(i, j)).max().orElse(0);
        }

        private int many(int kind, int i, int j) {
            return (int) tokens.subList(i, j).stream().filter(t -> t[0] == kind).count();
        }

        private int partner(int place) {
            if (!place(place)) return -1;
            if (kind(place) == 5) {
                for (int p = place + 1; p < tokens.size(); p++) {
                    if (kind(p) == 6 && many(5, place + 1, p) == many(6, place + 1, p)) return p;
                }
                return -2;
            }
            if (kind(place) == 6) {
                for (int p = place - 1; p >= 0; p--) {
                    if (kind(p) == 5 && many(5, p + 1, place) == many(6, p + 1, place)) return p;
                }
                return -2;
            }
            return -3;
        }

        private int depth(int i, int j) {
            if (!part(i, j)) return -1;
            int greatest = 0;
            for (int end = i; end <= j; end++) {
                greatest = Math.max(greatest, many(5, i, end) - many(6, i, end));
            }
            return greatest;
        }
    }

    /** An object and its model side by side, for no more calls than the document allows. */
    private static final class Pair {
        final Model model = new Model();
        private final EditedSums object = new EditedSums();
        private final StringBuilder story = new StringBuilder();
        private int calls = 0;

        boolean hasCallsLeft(int many) {
            return calls + many <= 512;
        }

        void call(int which, int a, int b, int c) {
            calls++;
            int want = model.call(which, a, b, c);
            int got = callObject(which, a, b, c);
            story.append(' ').append(CALLS[which]).append('(');
            int[] arguments = {a, b, c};
            for (int k = 0; k < PARAMETERS[which]; k++) {
                story.append(k == 0 ? "" : ", ").append(arguments[k]);
            }
            story.append(')');
            if (got != want) {
                wrong++;
                if (wrong <= 20) {
                    System.out.println("behind" + story + ": answered " + got + ", due is " + want);
                }
            }
        }

        private int callObject(int which, int a, int b, int c) {
            switch (which) {
                case 0: return object.insert(a, b, c);
                case 1: return object.delete(a, b);
                case 2: return object.set(a, b);
                case 3: return object.copy(a, b, c);
                case 4: return object.fold(a, b);
                case 5: return object.clear();
                case 6: return object.size();
                case 7: return object.kindAt(a);
                case 8: return object.numberAt(a);
                case 9: return object.isExpression(a, b);
                case 10: return object.value(a, b);
                case 11: return object.longest(a);
                case 12: return object.endings(a);
                case 13: return object.expressions();
                case 14: return object.best(a);
                case 15: return object.partner(a);
                default: return object.depth(a, b);
            }
        }

        void compareText() {
            call(6, 0, 0, 0);
            for (int place = -1; place <= model.tokens.size(); place++) {
                call(7, place, 0, 0);
                call(8, place, 0, 0);
            }
        }

        void compareQuestions() {
            int n = model.tokens.size();
            call(13, 0, 0, 0);
            for (int i = -1; i <= n; i++) {
                for (int which : new int[] {11, 12, 14, 15}) {
                    call(which, i, 0, 0);
                }
                for (int j = -1; j <= n + 1; j++) {
                    for (int which : new int[] {9, 10, 16}) {
                        call(which, i, j, 0);
                    }
                }
            }
        }
    }

    private static int wrong = 0;
    private static long seed = 20261115;

    /** From 0 to below - 1; the same row of numbers in every run of the test. */
    private static int pick(int below) {
        seed = seed * 6364136223846793005L + 1442695040888963407L;
        return (int) ((seed >>> 33) % below);
    }

    private static int pickPlace(int n) {
        return pick(25) == 0 ? EDGE_PLACES[pick(EDGE_PLACES.length)] : pick(n + 2);
    }

    private static int pickNumber() {
        return pick(4) == 0 ? EDGE_NUMBERS[pick(EDGE_NUMBERS.length)] : pick(41) - 20;
    }

    /** All rows of the seven kinds up to a length, with numbers that tell the places apart. */
    private static void everyShortText(int longest) {
        for (int length = 0; length <= longest; length++) {
            int texts = 1;
            for (int k = 0; k < length; k++) texts *= 7;
            for (int text = 0; text < texts; text++) {
                Pair pair = new Pair();
                int rest = text;
                for (int place = 0; place < length; place++) {
                    pair.call(0, place, rest % 7, 3 + place * (place % 2 == 0 ? 2 : -5));
                    rest /= 7;
                }
                pair.compareQuestions();
                pair.compareText();
                // Still within 512: at the longest, 5 + 197 + 15 calls.
            }
        }
    }

    /** Makes one NUMBER of the text two with an operator between them, or puts it in brackets. */
    private static void growExpression(Pair pair) {
        int n = pair.model.tokens.size();
        int place = pick(n);
        while (pair.model.kind(place) != 0) {
            place = (place + 1) % n;
        }
        if (pick(4) == 0) {
            pair.call(0, place, 5, 9);
            pair.call(0, place + 2, 6, 9);
        } else {
            pair.call(0, place + 1, 1 + pick(4), 9);
            pair.call(0, place + 2, 0, pickNumber());
        }
    }

    private static void askSomething(Pair pair) {
        int n = pair.model.tokens.size();
        int which = 6 + pick(11);
        int i = pickPlace(n);
        pair.call(which, i, pick(3) == 0 ? n : pickPlace(n), 0);
    }

    private static void editSomething(Pair pair) {
        int n = pair.model.tokens.size();
        int i = pickPlace(n);
        // Mostly short parts, so that the text is not soon empty or full.
        int j = pick(5) == 0 ? pickPlace(n) : i + 1 + pick(4);
        int what = pick(40);
        if (what < 14) {
            pair.call(0, i, pick(20) == 0 ? pick(2) * 8 - 1 : pick(7), pickNumber());
        } else if (what < 20) {
            pair.call(1, i, j, 0);
        } else if (what < 26) {
            pair.call(2, i, pickNumber(), 0);
        } else if (what < 32) {
            pair.call(3, i, j, pickPlace(n));
        } else if (what < 39) {
            pair.call(4, i, j, 0);
        } else if (pick(4) == 0) {
            pair.call(5, 0, 0, 0);
        }
    }

    private static void longRun() {
        Pair pair = new Pair();
        pair.call(0, 0, 0, pickNumber());
        int growths = pick(30);
        for (int k = 0; k < growths; k++) {
            growExpression(pair);
        }
        int n = pair.model.tokens.size();
        pair.call(10, 0, n, 0);
        for (int i = 0; i < n; i++) {
            pair.call(14, i, 0, 0);
            pair.call(11, i, 0, 0);
        }
        int edits = pick(4);
        while (pair.hasCallsLeft(130)) {
            if (pick(4) < edits) {
                editSomething(pair);
            } else {
                askSomething(pair);
            }
        }
        pair.compareText();
    }

    public static void main(String[] args) {
        everyShortText(5);
        for (int run = 0; run < 1500; run++) {
            longRun();
        }
        System.out.println(wrong == 0 ? "all answers are as due" : wrong + " answers are not as due");
        if (wrong != 0) {
            System.exit(1);
        }
    }
}
