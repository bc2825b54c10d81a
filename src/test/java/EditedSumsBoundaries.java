import java.util.ArrayList;
import java.util.Arrays;
import java.util.Collections;
import java.util.List;

/**
 * The sentences of the document that name a boundary case, each with a test of
 * its own. Every question and every refused call is followed by a reading of
 * the whole text, which must be as it was.
 */
public final class EditedSumsBoundaries {
    private static final int MIN = Integer.MIN_VALUE;
    private static final int MAX = Integer.MAX_VALUE;
    private static final int FULL = 60;
    private static final int CALLS = 512;
    private static final String SIGNS = "#+-*M()";
    private static final String ALL_KINDS = "7 + - * M ( )";

    private static int wrong = 0;
    private static int sentences = 0;
    private static String sentence = "";

    private static void sentence(String words) {
        sentences++;
        sentence = words;
    }

    private static void due(String what, Object got, Object want) {
        if (!want.equals(got)) {
            wrong++;
            System.out.println("[" + sentence + "] " + what + " answered " + got + ", due is " + want);
        }
    }

    /** One object, its calls told by name, and counted so that no test goes beyond what is promised. */
    private static final class Text {
        private final EditedSums object = new EditedSums();
        private int calls = 0;

        /** Tokens with spaces between them, M being MOST. */
        Text(String written) {
            int place = 0;
            for (String token : tokens(written)) {
                int kind = token.length() == 1 ? SIGNS.indexOf(token) : -1;
                if (kind > 0) {
                    call("insert", place, kind, 77);
                } else {
                    call("insert", place, 0, Integer.parseInt(token));
                }
                place++;
            }
        }

        int call(String name, int... a) {
            calls++;
            if (calls > CALLS) {
                throw new IllegalStateException("a test made call " + calls + " on one object");
            }
            return callBeyond(name, a);
        }

        /** A call that throws is told as a wrong answer, so that the other sentences are still tested. */
        int callBeyond(String name, int... a) {
            try {
                return dispatch(name, a);
            } catch (RuntimeException thrown) {
                due(name + Arrays.toString(a), thrown, "no exception");
                return 0;
            }
        }

        private int dispatch(String name, int... a) {
            switch (name) {
                case "insert": return object.insert(a[0], a[1], a[2]);
                case "delete": return object.delete(a[0], a[1]);
                case "set": return object.set(a[0], a[1]);
                case "copy": return object.copy(a[0], a[1], a[2]);
                case "fold": return object.fold(a[0], a[1]);
                case "clear": return object.clear();
                case "size": return object.size();
                case "kindAt": return object.kindAt(a[0]);
                case "numberAt": return object.numberAt(a[0]);
                case "isExpression": return object.isExpression(a[0], a[1]);
                case "value": return object.value(a[0], a[1]);
                case "longest": return object.longest(a[0]);
                case "endings": return object.endings(a[0]);
                case "expressions": return object.expressions();
                case "best": return object.best(a[0]);
                case "partner": return object.partner(a[0]);
                case "depth": return object.depth(a[0], a[1]);
                default: throw new IllegalStateException(name);
            }
        }

        String read() {
            List<String> written = new ArrayList<>();
            int size = call("size");
            for (int place = 0; place < size; place++) {
                int kind = call("kindAt", place);
                int number = call("numberAt", place);
                boolean known = kind == 0 || kind > 0 && kind < SIGNS.length() && number == 0;
                written.add(!known ? kind + "/" + number : kind == 0 ? "" + number : SIGNS.substring(kind, kind + 1));
            }
            return String.join(" ", written);
        }

        void answers(int want, String name, int... a) {
            due(name + Arrays.toString(a), call(name, a), want);
        }

        void holds(String want) {
            due("the text", read(), want);
        }
    }

    private static String[] tokens(String written) {
        return written.isEmpty() ? new String[0] : written.split(" ");
    }

    private static int length(String written) {
        return tokens(written).length;
    }

    private static String row(String token, int many) {
        return String.join(" ", Collections.nCopies(many, token));
    }

    /** The numbers 0, 1, 2, .. , so that each place can be told from the others. */
    private static String count(int many) {
        List<String> written = new ArrayList<>();
        for (int k = 0; k < many; k++) {
            written.add("" + k);
        }
        return String.join(" ", written);
    }

    /** A question or a refused call on a new object: its answer, and nothing changed. */
    private static void asks(String written, int want, String name, int... a) {
        Text x = new Text(written);
        due(name + Arrays.toString(a) + " on '" + written + "'", x.call(name, a), want);
        due("the text behind " + name + Arrays.toString(a), x.read(), written);
    }

    /** An edit of a new object that is not refused. */
    private static void edits(String written, String after, int want, String name, int... a) {
        Text x = new Text(written);
        due(name + Arrays.toString(a) + " on '" + written + "'", x.call(name, a), want);
        due("the text behind " + name + Arrays.toString(a) + " on '" + written + "'", x.read(), after);
    }

    private static void valueIs(String written, int want) {
        asks(written, want, "value", 0, length(written));
    }

    private static void isOne(String written) {
        asks(written, 1, "isExpression", 0, length(written));
    }

    private static void isNone(String written) {
        asks(written, 0, "isExpression", 0, length(written));
        asks(written, 0, "value", 0, length(written));
        asks(written, -2, "fold", 0, length(written));
    }

    private static int[] noPlaces(int n) {
        return new int[] {-1, -2, n, n + 1, FULL, FULL + 1, MIN, MIN + 1, MAX, MAX - 1};
    }

    private static void asksAtNoPlace(int want, String name) {
        for (String written : new String[] {"", "7", ALL_KINDS, row("5", FULL)}) {
            for (int place : noPlaces(length(written))) {
                asks(written, want, name, place);
            }
        }
    }

    private static List<int[]> noParts(int n) {
        return List.of(new int[][] {
            {-1, 0}, {-1, 1}, {-1, n}, {-2, -1}, {MIN, 1}, {MIN, n}, {MIN, MIN + 1}, {MIN, MAX},
            {0, n + 1}, {n - 1, n + 1}, {n, n + 1}, {0, FULL + 1}, {0, MAX}, {n, MAX}, {MAX - 1, MAX},
            {0, 0}, {1, 1}, {n, n}, {MIN, MIN}, {MAX, MAX},
            {1, 0}, {n, 0}, {n, n - 1}, {0, -1}, {0, MIN}, {n, MIN}, {MAX, MIN}, {MAX, 0}});
    }

    private static void refusesNoPart(int want, String name, int... more) {
        for (String written : new String[] {"", "7", "( 1 + 2 )", row("5", FULL)}) {
            for (int[] part : noParts(length(written))) {
                int[] a = Arrays.copyOf(part, 2 + more.length);
                System.arraycopy(more, 0, a, 2, more.length);
                asks(written, want, name, a);
            }
        }
    }

    // What it is

    private static void lastCallThatIsPromised() {
        sentence("What it is: an object is used for at most 512 calls");
        Text x = new Text("2 * 3");
        for (int k = x.calls; k < CALLS - 1; k++) {
            x.answers(6, "value", 0, 3);
        }
        x.answers(6, "value", 0, 3);
        x = new Text("");
        for (int k = 1; k < CALLS; k++) {
            x.answers(k <= FULL ? k : -3, "insert", 0, 0, k);
        }
        x.answers(60, "numberAt", 0);
        x = new Text("8");
        while (x.calls + 2 <= CALLS) {
            x.answers(2, "insert", 0, 5, 1);
            x.answers(1, "delete", 0, 1);
        }
        due("calls", x.calls, CALLS - 1);
        x.answers(8, "numberAt", 0);
    }

    /** The answers are free here; LANGUAGE.md, rule 7, still asks that no call throws. */
    private static void callsBeyondTheLast() {
        sentence("What it is: what later calls answer is free");
        Text x = new Text("( 1 + 2 ) * 3 M 4");
        for (int k = 0; k < 3000; k++) {
            int i = k % 70 - 5;
            x.callBeyond("insert", i, k % 9 - 1, k);
            x.callBeyond("copy", i, i + k % 5, k % 61);
            x.callBeyond("fold", i, i + k % 7);
            x.callBeyond("set", i, k);
            x.callBeyond("best", i);
            x.callBeyond("partner", i);
            x.callBeyond("depth", i, i + k % 11);
            x.callBeyond("expressions");
            x.callBeyond(k % 2 == 0 ? "value" : "delete", i, i + k % 4);
        }
    }

    // Terms

    private static void atMost60Tokens() {
        sentence("Terms: the text is a row of at most 60 tokens");
        Text x = new Text(count(FULL));
        x.answers(-3, "insert", 30, 0, 1);
        x.answers(-3, "copy", 0, 1, 0);
        x.answers(FULL, "size");
        x.answers(59, "delete", 30, 31);
        x.answers(FULL, "insert", 59, 0, 5);
        x.answers(-3, "insert", 59, 0, 5);
        x.answers(5, "numberAt", 59);
        x.answers(59, "numberAt", 58);
        x.answers(-1, "kindAt", FULL);
        x = new Text("1 +");
        for (int size : new int[] {4, 8, 16, 32}) {
            x.answers(size, "copy", 0, size / 2, size / 2);
        }
        x.answers(-3, "copy", 0, 32, 32);
        x.answers(FULL, "copy", 0, 28, 32);
        x.holds(row("1 +", 30));
    }

    private static void sevenKinds() {
        sentence("Terms: the kinds of tokens are 0 NUMBER .. 6 CLOSE");
        for (int kind = 0; kind <= 6; kind++) {
            asks(ALL_KINDS, kind, "kindAt", kind);
        }
    }

    private static void anyInt() {
        sentence("Terms: NUMBER (with any int)");
        for (int number : new int[] {0, 1, -1, 2, -2, 77, 65535, 65536, -65536, MAX - 1, MAX, MIN + 1, MIN}) {
            Text x = new Text("" + number);
            x.holds("" + number);
            x.answers(number, "value", 0, 1);
            x.answers(number, "best", 0);
            x.answers(2, "copy", 0, 1, 0);
            x.answers(2, "fold", 1, 2);
            x.answers(1, "set", 0, 5);
            x.answers(1, "set", 0, number);
            x.holds(number + " " + number);
        }
    }

    private static void formsOfExpressions() {
        sentence("Terms: expressions are a NUMBER alone; OPEN, an expression, CLOSE; "
            + "and an expression, one of PLUS, MINUS, TIMES and MOST, an expression");
        for (String yes : new String[] {"0", "( 0 )", "1 + 2", "1 - 2", "1 * 2", "1 M 2", "( ( 0 ) )", "( 1 ) + ( 2 )",
                "( 1 + 2 )", "1 - ( 2 )", "( 1 ) * 2", "1 + 2 - 3 * 4 M 5", "( 1 - 2 ) M ( 3 * ( 4 ) )"}) {
            isOne(yes);
        }
        for (String no : new String[] {"+", "-", "*", "M", "(", ")", "( )", ") (", "1 2", "- 1", "+ 1", "1 -", "1 M",
                "( 1", "1 )", "( 1 ) )", "( ( 1 )", ") 1 (", "1 ) + ( 2", "1 + + 2", "1 - - 2", "1 * M 2", "( - 1 )",
                "( 1 - )", "( 1 ) 2", "1 ( 2 )", "( 1 ) ( 2 )", "( 1 2 )", "( ) 1", "1 + ( )", "( 1 + ) 2", "1 ( + 2 )",
                "( 1 ( + 2 ) )"}) {
            isNone(no);
        }
    }

    private static void mostBindsMoreThanTimes() {
        sentence("Terms: MOST binds more than TIMES");
        valueIs("2 * 3 M 7", 14);
        valueIs("7 M 3 * 2", 14);
        valueIs("-2 * 3 M 4 * 5", -40);
        valueIs("3 M 4 * 5 M 6", 24);
        valueIs("( 2 * 3 ) M 7", 7);
    }

    private static void timesBindsMoreThanPlusAndMinus() {
        sentence("Terms: TIMES more than PLUS and MINUS");
        valueIs("1 + 2 * 3", 7);
        valueIs("2 * 3 + 1", 7);
        valueIs("1 - 2 * 3", -5);
        valueIs("2 * 3 - 1", 5);
        valueIs("2 * 3 - 4 * 5 + 6 * 7", 28);
        valueIs("( 1 + 2 ) * 3", 9);
    }

    private static void mostBindsMoreThanPlusAndMinus() {
        sentence("Terms: MOST more than TIMES, and so more than PLUS and MINUS");
        valueIs("1 + 2 M 5", 6);
        valueIs("5 M 2 + 1", 6);
        valueIs("9 - 2 M 5", 4);
        valueIs("5 M 2 - 9", -4);
        valueIs("1 + 2 * 3 M 4 - 5", 4);
        valueIs("5 M ( 2 + 9 )", 11);
    }

    private static void leftFirst() {
        sentence("Terms: PLUS and MINUS bind alike; the one further left has its parts put together first");
        valueIs("1 - 2 - 3", -4);
        valueIs("1 - 2 + 3", 2);
        valueIs("1 + 2 - 3 + 4", 4);
        valueIs("1 - 2 - 3 - 4 + 5", -3);
        valueIs("1 - ( 2 - 3 )", 2);
        valueIs("1 - ( 2 + 3 )", -4);
        valueIs("10 - 2 * 3 - 4", 0);
        valueIs("( 8 - 4 - 2 ) * 3 - 2 - 1", 3);
        valueIs(row("1 -", 29) + " 1", -28);
    }

    private static void wrappingSum() {
        sentence("Terms: the sum of their values, wrapping as ints do");
        valueIs(MAX + " + 1", MIN);
        valueIs(MAX + " + " + MAX, -2);
        valueIs(MIN + " + -1", MAX);
        valueIs(MIN + " + " + MIN, 0);
        valueIs(MAX + " + 0", MAX);
        valueIs(MAX + " + " + MIN, -1);
        valueIs(MAX + " + 1 + -1", MAX);
        valueIs("( " + MAX + " + 1 ) M 0", 0);
    }

    private static void wrappingDifference() {
        sentence("Terms: the difference of their values, wrapping as ints do");
        valueIs(MIN + " - 1", MAX);
        valueIs(MAX + " - -1", MIN);
        valueIs("0 - " + MIN, MIN);
        valueIs("-1 - " + MIN, MAX);
        valueIs(MIN + " - " + MIN, 0);
        valueIs(MIN + " - " + MAX, 1);
        valueIs("0 - " + MAX, MIN + 1);
        valueIs("( " + MIN + " - 1 ) M 0", MAX);
    }

    private static void wrappingProduct() {
        sentence("Terms: the product of their values, wrapping as ints do");
        valueIs("65536 * 65536", 0);
        valueIs("65536 * 32768", MIN);
        valueIs("46341 * 46341", -2147479015);
        valueIs(MAX + " * " + MAX, 1);
        valueIs(MIN + " * -1", MIN);
        valueIs(MIN + " * " + MIN, 0);
        valueIs(MIN + " * " + MAX, MIN);
        valueIs(MAX + " * 2 + 3", 1);
        valueIs("( 65536 * 32768 ) M -5", -5);
        valueIs(row("2 *", 29) + " 4", MIN);
        valueIs(row("3 *", 29) + " 3", -1010140999);
    }

    private static void greaterOfValues() {
        sentence("Terms: with MOST, the greater of their values");
        valueIs("1 M 2", 2);
        valueIs("2 M 1", 2);
        valueIs("2 M 2", 2);
        valueIs(MIN + " M " + MAX, MAX);
        valueIs(MAX + " M " + MIN, MAX);
        valueIs(MIN + " M 1", 1);
        valueIs("-2 M " + MAX, MAX);
        valueIs(MIN + " M " + MIN, MIN);
        valueIs("0 M " + MIN, 0);
    }

    private static void mostOfNegatives() {
        sentence("Terms: with MOST, the greater of their values (both below 0)");
        valueIs("-1 M -2", -1);
        valueIs("-2 M -1", -1);
        valueIs("-5 M -3 M -4", -3);
        valueIs(MIN + " M " + (MIN + 1), MIN + 1);
        valueIs("( -5 ) M ( -3 - 1 )", -4);
        valueIs("2 * -3 M -4", -6);
        valueIs("1 - -3 M -4", 4);
    }

    private static void whatIsAPart() {
        sentence("Terms: a part is none unless i is at least 0, j is at most the number of tokens and i is less than j");
        for (String written : new String[] {"5", "5 6 7", count(FULL)}) {
            int n = length(written);
            for (int[] part : new int[][] {{0, 1}, {n - 1, n}, {0, n}}) {
                asks(written, part[1] - part[0] == 1 ? 1 : 0, "isExpression", part[0], part[1]);
            }
            for (int[] part : noParts(n)) {
                asks(written, -1, "isExpression", part[0], part[1]);
            }
        }
        for (int[] part : new int[][] {{0, 0}, {0, 1}, {-1, 0}, {-1, 1}, {1, 0}, {1, 1}}) {
            asks("", -1, "isExpression", part[0], part[1]);
        }
    }

    private static void refusedCallsChangeNothing() {
        sentence("Terms: a refused call changes nothing");
        for (String written : new String[] {"", "+", "( 1 - 2", "1 + 2 *", row("3 *", 30), row("(", FULL)}) {
            int n = length(written);
            Text x = new Text(written);
            x.answers(-1, "insert", -1, 0, 9);
            x.answers(-1, "insert", n + 1, 0, 9);
            x.answers(-2, "insert", 0, 7, 9);
            x.answers(-1, "delete", 0, n + 1);
            x.answers(-1, "delete", -1, n);
            x.answers(-1, "delete", n, n);
            x.answers(-1, "set", n, 9);
            x.answers(-1, "set", -1, 9);
            x.answers(-1, "copy", 0, n + 1, 0);
            x.answers(-1, "fold", -1, n);
            x.answers(-1, "fold", 0, n + 1);
            if (n > 0) {
                x.answers(-2, "copy", 0, 1, n + 1);
                x.answers(-2, "copy", 0, n, -1);
                x.answers(-2, "fold", 0, n);
                x.answers(-2, "set", x.call("kindAt", 0) == 0 ? 1 : 0, 9);
            }
            if (n == FULL) {
                x.answers(-3, "insert", 0, 0, 9);
                x.answers(-3, "insert", n, 1, 9);
                x.answers(-3, "copy", 0, 1, n);
            }
            x.holds(written);
        }
    }

    private static void questionsChangeNothing() {
        sentence("Terms: questions; they change nothing");
        String[] ofNone = {"size", "expressions"};
        String[] ofPlace = {"kindAt", "numberAt", "longest", "endings", "best", "partner"};
        String[] ofPart = {"isExpression", "value", "depth"};
        for (String written : new String[] {"", "( 1 - 2 ) * 3 M ( ( 4 ) + 5", ") 2 + ( ( 7 M -3 ) ) - (",
                row("(", 28) + " 9 " + row(")", 28)}) {
            int n = length(written);
            Text x = new Text(written);
            for (String name : ofNone) {
                x.call(name);
            }
            for (String name : ofPlace) {
                for (int place : new int[] {-1, 0, 1, n / 2, n - 1, n, MIN, MAX}) {
                    x.call(name, place);
                }
            }
            for (String name : ofPart) {
                for (int[] part : new int[][] {{0, n}, {0, 1}, {1, n}, {n - 1, n}, {0, n + 1}, {n, 0}, {MIN, MAX}}) {
                    x.call(name, part[0], part[1]);
                }
            }
            x.holds(written);
        }
    }

    private static void questionsAnswerAlike() {
        sentence("Terms: questions; they change nothing (nor the answers of later ones)");
        Text x = new Text("( 1 - 2 ) * -3 M -4 + 5");
        for (int k = 0; k < 3; k++) {
            x.answers(8, "value", 0, 11);
            x.answers(8, "best", 0);
            x.answers(-1, "value", 1, 4);
            x.answers(0, "value", 0, 10);
            x.answers(-2, "longest", 5);
            x.answers(11, "longest", 0);
            x.answers(4, "endings", 0);
            x.answers(-3, "value", 6, 9);
            x.answers(13, "expressions");
        }
    }

    // Promise 1

    private static void newObjectIsEmpty() {
        sentence("1: an empty text");
        asks("", 0, "size");
        asks("", -1, "kindAt", 0);
        asks("", 0, "numberAt", 0);
        asks("", 0, "expressions");
        asks("", -1, "longest", 0);
        asks("", 0, "clear");
        asks("", -1, "delete", 0, 1);
        Text used = new Text(count(FULL));
        asks("", 0, "size");
        used.answers(FULL, "size");
    }

    // Promise 2

    private static void insertBefore() {
        sentence("2: puts a token before the one at a place (or at the end)");
        edits("", "9", 1, "insert", 0, 0, 9);
        edits("1 + 2", "9 1 + 2", 4, "insert", 0, 0, 9);
        edits("1 + 2", "1 9 + 2", 4, "insert", 1, 0, 9);
        edits("1 + 2", "1 + 9 2", 4, "insert", 2, 0, 9);
        edits("1 + 2", "1 + 2 9", 4, "insert", 3, 0, 9);
        edits(count(59), "9 " + count(59), FULL, "insert", 0, 0, 9);
        edits(count(59), count(58) + " 9 58", FULL, "insert", 58, 0, 9);
        edits(count(59), count(59) + " 9", FULL, "insert", 59, 0, 9);
    }

    private static void insertAtNoPlace() {
        sentence("2: place is not from 0 to the number of tokens: -1");
        for (String written : new String[] {"", "7", "1 + 2", count(59)}) {
            int n = length(written);
            for (int place : new int[] {-1, -2, n + 1, n + 2, FULL + 1, MIN, MAX}) {
                asks(written, -1, "insert", place, 0, 9);
                asks(written, -1, "insert", place, 5, 9);
            }
        }
    }

    private static void insertNoKind() {
        sentence("2: kind is not 0 to 6: -2");
        for (int kind : new int[] {-1, -2, 7, 8, 100, MIN, MAX}) {
            asks("", -2, "insert", 0, kind, 9);
            asks("1 + 2", -2, "insert", 0, kind, 9);
            asks("1 + 2", -2, "insert", 3, kind, 9);
        }
        for (int kind = 0; kind <= 6; kind++) {
            Text x = new Text("");
            x.answers(1, "insert", 0, kind, 0);
            x.answers(kind, "kindAt", 0);
        }
    }

    private static void insertIntoFull() {
        sentence("2: there are 60 tokens: -3");
        for (int place : new int[] {0, 1, 30, 59, 60}) {
            asks(count(FULL), -3, "insert", place, 0, 9);
            asks(count(FULL), -3, "insert", place, 6, 9);
        }
        edits(count(59), count(59) + " )", FULL, "insert", 59, 6, 9);
    }

    private static void insertOrder() {
        sentence("2: the tests are made in the order in which they are named");
        asks("1 + 2", -1, "insert", 4, 7, 9);
        asks("1 + 2", -1, "insert", -1, -1, 9);
        asks(count(FULL), -1, "insert", 61, 0, 9);
        asks(count(FULL), -1, "insert", -1, 7, 9);
        asks(count(FULL), -2, "insert", 60, 7, 9);
        asks(count(FULL), -2, "insert", 0, -1, 9);
    }

    private static void numberOfNumberOnly() {
        sentence("2: number is looked at for NUMBER only");
        for (int number : new int[] {0, 1, -1, 7, MIN, MAX}) {
            for (int kind = 1; kind <= 6; kind++) {
                edits("1 2", "1 " + SIGNS.charAt(kind) + " 2", 3, "insert", 1, kind, number);
            }
            edits("1 2", "1 " + number + " 2", 3, "insert", 1, 0, number);
            Text x = new Text("1 2");
            x.answers(3, "insert", 1, 2, number);
            x.answers(-1, "value", 0, 3);
            x.answers(-1, "value", 0, 3);
        }
        Text x = new Text("5 6");
        x.answers(1, "delete", 1, 2);
        x.answers(2, "insert", 1, 3, 8);
        x.answers(0, "numberAt", 1);
        x.answers(-2, "set", 1, 4);
        x.answers(0, "numberAt", 1);
    }

    // Promise 3

    private static void deleteParts() {
        sentence("3: takes the tokens of a part out; answers how many tokens are left");
        edits(ALL_KINDS, "+ - * M ( )", 6, "delete", 0, 1);
        edits(ALL_KINDS, "7 + - * M (", 6, "delete", 6, 7);
        edits(ALL_KINDS, "7 + ( )", 4, "delete", 2, 5);
        edits(ALL_KINDS, ")", 1, "delete", 0, 6);
        edits(ALL_KINDS, "7", 1, "delete", 1, 7);
        edits(count(FULL), count(59), 59, "delete", 59, 60);
        edits(count(FULL), count(30), 30, "delete", 30, 60);
        edits("1 2 3", "1 3", 2, "delete", 1, 2);
    }

    private static void deleteAll() {
        sentence("3: takes the tokens of a part out (all of them)");
        edits("7", "", 0, "delete", 0, 1);
        edits(ALL_KINDS, "", 0, "delete", 0, 7);
        edits(count(FULL), "", 0, "delete", 0, FULL);
        Text x = new Text("1 2");
        x.answers(0, "delete", 0, 2);
        x.answers(-1, "delete", 0, 1);
        x.answers(-1, "kindAt", 0);
        x.answers(1, "insert", 0, 5, 3);
        x.holds("(");
    }

    private static void deleteNoPart() {
        sentence("3: it is no part: -1");
        refusesNoPart(-1, "delete");
    }

    // Promise 4

    private static void setNumbers() {
        sentence("4: gives the NUMBER at a place another number; else answers 1");
        edits("1 + 2", "9 + 2", 1, "set", 0, 9);
        edits("1 + 2", "1 + " + MIN, 1, "set", 2, MIN);
        edits("1 + 2", "1 + " + MAX, 1, "set", 2, MAX);
        edits("1 + 2", "1 + 2", 1, "set", 2, 2);
        edits("1 + 2", "0 + 2", 1, "set", 0, 0);
        edits(count(FULL), count(59) + " -1", 1, "set", 59, -1);
    }

    private static void setAtNoPlace() {
        sentence("4: there is no such place: -1");
        for (String written : new String[] {"", "7", ALL_KINDS, row("5", FULL)}) {
            for (int place : noPlaces(length(written))) {
                asks(written, -1, "set", place, 9);
            }
        }
        Text x = new Text("1 2");
        x.answers(1, "delete", 0, 1);
        x.answers(-1, "set", 1, 9);
        x.holds("2");
    }

    private static void setNoNumber() {
        sentence("4: its token is no NUMBER: -2");
        for (int place = 1; place <= 6; place++) {
            asks(ALL_KINDS, -2, "set", place, 9);
            asks(ALL_KINDS, -2, "set", place, 0);
        }
    }

    // Promise 5

    private static void copyAnywhere() {
        sentence("5: puts a copy of a part before the token at a place (or at the end); "
            + "the part is as it was before the call");
        String written = "1 + ( 2 - 3";
        List<String> before = List.of(tokens(written));
        int n = before.size();
        for (int i = 0; i < n; i++) {
            for (int j = i + 1; j <= n; j++) {
                for (int place = 0; place <= n; place++) {
                    List<String> after = new ArrayList<>(before);
                    after.addAll(place, before.subList(i, j));
                    edits(written, String.join(" ", after), n + j - i, "copy", i, j, place);
                }
            }
        }
    }

    private static void copyBeforeThePart() {
        sentence("5: the part is as it was before the call (a place before the part)");
        edits("1 2 3 4 5", "3 4 1 2 3 4 5", 7, "copy", 2, 4, 0);
        edits("1 2 3 4 5", "1 3 4 2 3 4 5", 7, "copy", 2, 4, 1);
        edits("1 2 3 4 5", "1 2 3 4 3 4 5", 7, "copy", 2, 4, 2);
    }

    private static void copyInsideThePart() {
        sentence("5: the part is as it was before the call (a place inside the part)");
        edits("1 2 3 4 5", "1 2 3 2 3 4 4 5", 8, "copy", 1, 4, 3);
        edits("1 2 3 4 5", "1 2 2 3 4 3 4 5", 8, "copy", 1, 4, 2);
        edits("1 2 3 4 5", "1 1 2 3 4 5 2 3 4 5", 10, "copy", 0, 5, 1);
    }

    private static void copyBehindThePart() {
        sentence("5: the part is as it was before the call (a place behind the part)");
        edits("1 2 3 4 5", "1 2 3 2 3 4 5", 7, "copy", 1, 3, 3);
        edits("1 2 3 4 5", "1 2 3 4 2 3 5", 7, "copy", 1, 3, 4);
        edits("1 2 3 4 5", "1 2 3 4 5 2 3", 7, "copy", 1, 3, 5);
        edits("1", "1 1", 2, "copy", 0, 1, 1);
    }

    private static void copyNoPart() {
        sentence("5: it is no part: -1");
        refusesNoPart(-1, "copy", 0);
    }

    private static void copyToNoPlace() {
        sentence("5: place is not from 0 to the number of tokens: -2");
        for (String written : new String[] {"7", "1 + 2", count(30)}) {
            int n = length(written);
            for (int place : new int[] {-1, -2, n + 1, n + 2, FULL + 1, MIN, MAX}) {
                asks(written, -2, "copy", 0, 1, place);
                asks(written, -2, "copy", 0, n, place);
            }
        }
    }

    private static void copyTooMany() {
        sentence("5: there would be more than 60 tokens: -3");
        for (int place : new int[] {0, 15, 31}) {
            asks(count(31), -3, "copy", 0, 30, place);
            asks(count(31), -3, "copy", 0, 31, place);
            asks(count(31), -3, "copy", 1, 31, place);
        }
        asks(count(59), -3, "copy", 57, 59, 59);
        asks(count(FULL), -3, "copy", 0, 1, 0);
        asks(count(FULL), -3, "copy", 59, 60, 60);
        asks(count(FULL), -3, "copy", 0, FULL, 30);
    }

    private static void copyJust60() {
        sentence("5: there would be more than 60 tokens: -3 (60 just reached)");
        edits(count(30), count(30) + " " + count(30), FULL, "copy", 0, 30, 0);
        edits(count(30), count(30) + " " + count(30), FULL, "copy", 0, 30, 30);
        edits(count(59), count(59) + " 58", FULL, "copy", 58, 59, 59);
        edits(count(59), "58 " + count(59), FULL, "copy", 58, 59, 0);
        edits(count(31), "0 " + count(29) + " " + count(31).substring(2), FULL, "copy", 0, 29, 1);
    }

    private static void copyOrder() {
        sentence("5: the tests are made in the order in which they are named");
        asks("1 + 2", -1, "copy", 0, 0, -1);
        asks("1 + 2", -1, "copy", 0, 4, 4);
        asks(count(FULL), -1, "copy", 0, 61, 0);
        asks(count(FULL), -1, "copy", -1, 60, 61);
        asks(count(FULL), -2, "copy", 0, 60, 61);
        asks(count(FULL), -2, "copy", 0, 1, -1);
    }

    // Promise 6

    private static void foldParts() {
        sentence("6: puts one NUMBER in place of a part that is an expression: its value");
        edits("1 + ( 2 - 7 ) * 3", "1 + -5 * 3", 5, "fold", 2, 7);
        edits("1 + ( 2 - 7 ) * 3", "1 + ( -5 ) * 3", 7, "fold", 3, 6);
        edits("2 * 3 + 4", "2 * 7", 3, "fold", 2, 5);
        edits("( 1 + 2", "( 3", 2, "fold", 1, 4);
        edits("( 1 ) -", "1 -", 2, "fold", 0, 3);
        edits(MAX + " + 1 )", MIN + " )", 2, "fold", 0, 3);
        edits("-4 M -3 )", "-3 )", 2, "fold", 0, 3);
        edits("0 - 0", "0", 1, "fold", 0, 3);
        edits(row("1 +", 30), "30 +", 2, "fold", 0, 59);
        edits("- " + row("1 +", 29) + " 1", "- 30", 2, "fold", 1, 60);
    }

    private static void foldNoPart() {
        sentence("6: it is no part: -1");
        refusesNoPart(-1, "fold");
    }

    private static void foldNoExpression() {
        sentence("6: it is no expression: -2");
        asks("1 + 2", -2, "fold", 0, 2);
        asks("1 + 2", -2, "fold", 1, 2);
        asks("1 + 2", -2, "fold", 1, 3);
        asks("( 1 + 2 )", -2, "fold", 0, 4);
        asks("( 1 + 2 )", -2, "fold", 1, 5);
        asks("( )", -2, "fold", 0, 2);
        asks("1 2", -2, "fold", 0, 2);
        asks(row("1 +", 30), -2, "fold", 0, 60);
        asks(row("(", FULL), -2, "fold", 0, 60);
        asks(row(")", FULL), -2, "fold", 0, 60);
        for (int place = 1; place <= 6; place++) {
            asks(ALL_KINDS, -2, "fold", place, place + 1);
        }
    }

    private static void foldOneNumber() {
        sentence("6: puts one NUMBER in place of a part (a part of one NUMBER)");
        edits("1 + 2", "1 + 2", 3, "fold", 0, 1);
        edits("1 + 2", "1 + 2", 3, "fold", 2, 3);
        edits("" + MIN, "" + MIN, 1, "fold", 0, 1);
        edits(count(FULL), count(FULL), FULL, "fold", 59, 60);
    }

    private static void foldWhole() {
        sentence("6: puts one NUMBER in place of a part (the whole text)");
        edits("1 - 2 - 3", "-4", 1, "fold", 0, 5);
        edits("( 7 )", "7", 1, "fold", 0, 3);
        edits(row("1 -", 29) + " 1", "-28", 1, "fold", 0, 59);
        edits(row("(", 29) + " 5 " + row(")", 29), "5", 1, "fold", 0, 59);
    }

    // Promises 7 and 8

    private static void clearEmpty() {
        sentence("7: takes all tokens out; answers how many there were (the empty text)");
        edits("", "", 0, "clear");
        Text x = new Text("1 + 2");
        x.answers(3, "clear");
        x.answers(0, "clear");
        x.answers(0, "clear");
    }

    private static void clearFull() {
        sentence("7: takes all tokens out; answers how many there were (the full text)");
        edits(count(FULL), "", FULL, "clear");
        Text x = new Text(count(FULL));
        x.answers(FULL, "clear");
        x.answers(-1, "kindAt", 0);
        x.answers(0, "numberAt", 59);
        x.answers(0, "expressions");
        x.answers(-1, "insert", 1, 0, 1);
        for (int k = 1; k <= FULL; k++) {
            x.answers(k, "insert", 0, 2, 4);
        }
        x.holds(row("-", FULL));
    }

    private static void sizeOfEmptyAndFull() {
        sentence("8: how many tokens there are");
        asks("", 0, "size");
        asks("7", 1, "size");
        asks(count(59), 59, "size");
        asks(count(FULL), FULL, "size");
        Text x = new Text(count(FULL));
        x.answers(-3, "insert", 0, 0, 1);
        x.answers(FULL, "size");
        x.answers(0, "delete", 0, FULL);
        x.answers(0, "size");
        x.answers(-1, "delete", 0, 1);
        x.answers(0, "size");
    }

    // Promises 9 and 10

    private static void kindAtNoPlace() {
        sentence("9: -1 if there is no such place");
        asksAtNoPlace(-1, "kindAt");
        asks(row(")", FULL), 6, "kindAt", 59);
        asks(row("5", FULL), 0, "kindAt", 59);
        Text x = new Text("1 + 2");
        x.answers(1, "delete", 0, 2);
        x.answers(0, "kindAt", 0);
        x.answers(-1, "kindAt", 1);
        x.answers(-1, "kindAt", 2);
    }

    private static void numberAtNoPlace() {
        sentence("10: 0 if there is no such place");
        asksAtNoPlace(0, "numberAt");
        asks(count(FULL), 59, "numberAt", 59);
        Text x = new Text("1 2 3");
        x.answers(1, "delete", 0, 2);
        x.answers(3, "numberAt", 0);
        x.answers(0, "numberAt", 1);
        x.answers(0, "numberAt", 2);
    }

    private static void numberAtNoNumber() {
        sentence("10: 0 if its token is none");
        for (int place = 1; place <= 6; place++) {
            asks(ALL_KINDS, 0, "numberAt", place);
        }
        Text x = new Text("1 2");
        x.answers(1, "delete", 0, 1);
        x.answers(2, "copy", 0, 1, 0);
        x.answers(3, "insert", 1, 6, 8);
        x.answers(4, "copy", 1, 2, 0);
        x.holds(") 2 ) 2");
    }

    // Promises 11 and 12

    private static void isExpressionNoPart() {
        sentence("11: -1 if it is no part");
        refusesNoPart(-1, "isExpression");
    }

    private static void isExpressionOrNot() {
        sentence("11: 1 if a part is an expression, else 0");
        String written = "( 1 + 2 ) 3";
        int[][] yes = {{0, 5}, {1, 2}, {1, 4}, {3, 4}, {5, 6}};
        for (int i = 0; i < 6; i++) {
            for (int j = i + 1; j <= 6; j++) {
                int[] part = {i, j};
                boolean is = Arrays.stream(yes).anyMatch(p -> Arrays.equals(p, part));
                asks(written, is ? 1 : 0, "isExpression", i, j);
            }
        }
        asks(row("1 +", 30), 0, "isExpression", 0, 60);
        asks(row("1 +", 30), 1, "isExpression", 0, 59);
        asks("( " + row("1 +", 29) + " 1", 1, "isExpression", 1, 60);
    }

    private static void valueNoPart() {
        sentence("12: 0 if it is no part");
        refusesNoPart(0, "value");
    }

    private static void valueNoExpression() {
        sentence("12: 0 if it is none");
        asks("7 + 8", 0, "value", 0, 2);
        asks("7 + 8", 0, "value", 1, 3);
        asks("7 + 8", 0, "value", 1, 2);
        asks("7 8", 0, "value", 0, 2);
        asks("( 7", 0, "value", 0, 2);
        asks("7 )", 0, "value", 0, 2);
        asks("( 7 )", 0, "value", 0, 2);
        asks("( 7 )", 7, "value", 1, 2);
        asks("7 ) ( 8", 0, "value", 0, 4);
        asks(row("7 +", 30), 0, "value", 0, 60);
        asks(row("7", FULL), 0, "value", 0, 60);
    }

    private static void deepBrackets() {
        sentence("12: of what stands in brackets, the value of the expression in them (as deep as 60 tokens allow)");
        String deep = row("(", 29) + " 6 " + row(")", 29);
        valueIs(deep, 6);
        isOne(deep);
        for (int k = 0; k <= 29; k++) {
            asks(deep, 6, "value", k, 59 - k);
        }
        asks(deep, 0, "value", 0, 58);
        asks(deep, 0, "value", 1, 59);
        asks(deep + " )", 0, "value", 0, 60);
        asks(deep + " )", 6, "value", 0, 59);
        asks("( " + deep, 6, "value", 1, 60);
        asks("( " + deep, 0, "value", 0, 60);
        isNone(row("(", 30) + " " + row(")", 30));
        isNone(row(")", 30) + " " + row("(", 30));
        isNone(row("(", FULL));
        isNone(row(")", FULL));
    }

    /** Each bracket has an operator before it that waits until it is closed. */
    private static void deepBracketsWithOperators() {
        sentence("12: of two expressions with an operator between them, each of them in brackets");
        valueIs(row("1 - (", 14) + " 1 " + row(")", 14), 1);
        valueIs(row("1 - (", 13) + " 1 " + row(")", 13), 0);
        valueIs(row("2 * (", 14) + " 3 " + row(")", 14), 3 << 14);
        valueIs(row("0 M (", 14) + " -3 " + row(")", 14), 0);
        valueIs(row("-9 M (", 14) + " -3 " + row(")", 14), -3);
        valueIs(row("(", 14) + " 1 " + row("- 1 )", 14), -13);
        valueIs(row("1 + 2 * (", 9) + " 1 " + row(")", 9), 1023);
        valueIs(row("2 * 1 M (", 9) + " 3 " + row(")", 9), 3 << 9);
        valueIs("( 1 - 2 ) * ( 3 - ( 4 - 9 ) ) M ( 2 - 7 ) - ( 1 )", -9);
    }

    // Promises 13 and 14

    private static void longestAtNoPlace() {
        sentence("13: i is not the place of a token: -1");
        asksAtNoPlace(-1, "longest");
    }

    private static void longestOfNone() {
        sentence("13: -2 if there is none");
        for (int place = 1; place <= 6; place++) {
            asks(ALL_KINDS, -2, "longest", place);
        }
        asks("( 1", -2, "longest", 0);
        asks("( )", -2, "longest", 0);
        asks("( 1 + ) 2", -2, "longest", 0);
        asks(") 1", -2, "longest", 0);
        asks("1 -", -2, "longest", 1);
        asks(row("(", FULL), -2, "longest", 0);
        asks(row("(", FULL), -2, "longest", 59);
    }

    private static void longestIsGreatest() {
        sentence("13: the greatest j such that the part (i, j) is an expression");
        asks("7", 1, "longest", 0);
        asks("1 + 2", 3, "longest", 0);
        asks("1 + 2 -", 3, "longest", 0);
        asks("1 + 2 3", 3, "longest", 0);
        asks("1 + ( 2", 1, "longest", 0);
        asks("1 + ( 2 )", 5, "longest", 0);
        asks("( 1 ) + ( 2", 3, "longest", 0);
        asks("( 1 + 2 ) * 3", 4, "longest", 1);
        asks("( 1 + 2 ) * 3", 7, "longest", 0);
        asks("1 + 2 ) + 3", 3, "longest", 0);
        asks(row("1 +", 30), 59, "longest", 0);
        asks("+ " + row("1 +", 29) + " 1", 60, "longest", 1);
        asks(row("5", FULL), 60, "longest", 59);
    }

    private static void endingsAtNoPlace() {
        sentence("14: i is not the place of a token: -1");
        asksAtNoPlace(-1, "endings");
    }

    private static void endingsOfNone() {
        sentence("14: how many j there are (none)");
        for (int place = 1; place <= 6; place++) {
            asks(ALL_KINDS, 0, "endings", place);
        }
        asks("( 1", 0, "endings", 0);
        asks("( )", 0, "endings", 0);
        asks(row("(", FULL), 0, "endings", 0);
        asks(row("-", FULL), 0, "endings", 59);
    }

    private static void endingsAreCounted() {
        sentence("14: how many j there are such that the part (i, j) is an expression");
        asks("7", 1, "endings", 0);
        asks("1 + 2", 2, "endings", 0);
        asks("1 + 2 ) - 3", 2, "endings", 0);
        asks("1 + ( 2 - 3 ) * 4", 3, "endings", 0);
        asks("1 + ( 2 - 3 ) * 4", 2, "endings", 2);
        asks("1 + ( 2 - 3 ) * 4", 2, "endings", 3);
        asks(row("1 +", 30), 30, "endings", 0);
        asks(row("1 +", 30), 1, "endings", 58);
        asks("* " + row("1 +", 29) + " 1", 30, "endings", 1);
        asks(row("(", 29) + " 6 " + row(")", 29), 1, "endings", 0);
    }

    // Promise 15

    private static void expressionsOfEmpty() {
        sentence("15: how many parts of the text are expressions (the empty text)");
        asks("", 0, "expressions");
        Text x = new Text("1 + 2");
        x.answers(3, "expressions");
        x.answers(3, "clear");
        x.answers(0, "expressions");
    }

    private static void expressionsOfFull() {
        sentence("15: how many parts of the text are expressions (the full text)");
        asks(row("5", FULL), FULL, "expressions");
        asks(row("1 +", 30), 465, "expressions");
        asks(row("M 1", 30), 465, "expressions");
        asks("( " + row("1 +", 28) + " 1 ) *", 436, "expressions");
        asks(row("(", 29) + " 6 " + row(")", 30), 30, "expressions");
        asks(row("(", FULL), 0, "expressions");
        asks(row("( )", 30), 0, "expressions");
        asks(row("( 1 )", 20), 40, "expressions");
    }

    private static void expressionsOfFew() {
        sentence("15: how many parts of the text are expressions");
        asks("7", 1, "expressions");
        asks("+", 0, "expressions");
        asks("1 2", 2, "expressions");
        asks("( 1 )", 2, "expressions");
        asks("( 1 + 2 ) * 3", 6, "expressions");
        asks("1 + 2 ) * 3", 4, "expressions");
    }

    // Promise 16

    private static void bestAtNoPlace() {
        sentence("16: i is not the place of a token: 0");
        asksAtNoPlace(0, "best");
    }

    private static void bestOfNone() {
        sentence("16: there is none: 0");
        for (int place = 1; place <= 6; place++) {
            asks(ALL_KINDS, 0, "best", place);
        }
        asks("( 1", 0, "best", 0);
        asks("( -1 + ) -2", 0, "best", 0);
        asks("- 5", 0, "best", 0);
        asks(row("(", FULL), 0, "best", 0);
        asks(row(")", FULL), 0, "best", 59);
    }

    private static void bestBelowZero() {
        sentence("16: the greatest value (all values below 0)");
        asks("-1", -1, "best", 0);
        asks("-7 + 2 - 9", -5, "best", 0);
        asks("-7 - 2 - 9", -7, "best", 0);
        asks("-7 - 2 + 8", -1, "best", 0);
        asks("" + MIN, MIN, "best", 0);
        asks(MIN + " + 1", MIN + 1, "best", 0);
        asks("( -4 ) M -3 * 2", -3, "best", 0);
    }

    private static void bestWrapping() {
        sentence("16: the greatest value (values that wrap around)");
        asks(MAX + " + 1", MAX, "best", 0);
        asks(MAX + " + 1 - 1", MAX, "best", 0);
        asks(MIN + " - 1", MAX, "best", 0);
        asks("2 - " + MIN, 2, "best", 0);
        asks("-2 - " + MIN, MAX - 1, "best", 0);
        asks("65536 * 65536 - 5", 65536, "best", 0);
        asks("-65536 * 65536 - 5", 0, "best", 0);
        asks(MIN + " + " + MAX + " + 2", 1, "best", 0);
        asks("-5 + " + MIN, MAX - 4, "best", 0);
    }

    private static void bestOverAllEnds() {
        sentence("16: the greatest value of a part (i, j) that is an expression, over all j");
        asks("5 - 9 + 1", 5, "best", 0);
        asks("5 + 9 - 1", 14, "best", 0);
        asks("5 - 9 + 20", 16, "best", 0);
        asks("5 + 9 ) + 100", 14, "best", 0);
        asks("5 - 9 + 20", 29, "best", 2);
        asks("( 5 + 9 ) - 3", 14, "best", 0);
        asks(row("1 +", 30), 30, "best", 0);
        asks("- " + row("1 +", 29) + " 1", 30, "best", 1);
        asks(count(FULL), 59, "best", 59);
    }

    // Promise 17

    private static void partnerOfOpen() {
        sentence("17: for an OPEN the least place behind it");
        asks("( )", 1, "partner", 0);
        asks("( ) )", 1, "partner", 0);
        asks("( ( ) )", 3, "partner", 0);
        asks("( ( ) )", 2, "partner", 1);
        asks("( ( ) ( ) ) )", 5, "partner", 0);
        asks(") ( + ) ( )", 3, "partner", 1);
        asks("( " + row("1", 58) + " )", 59, "partner", 0);
        asks(row("(", 30) + " " + row(")", 30), 59, "partner", 0);
        asks(row("(", 30) + " " + row(")", 30), 30, "partner", 29);
    }

    private static void partnerOfClose() {
        sentence("17: for a CLOSE the greatest place before it");
        asks("( )", 0, "partner", 1);
        asks("( ( )", 1, "partner", 2);
        asks("( ( ) )", 0, "partner", 3);
        asks("( ( ) )", 1, "partner", 2);
        asks("( ( ( ) ( ) )", 1, "partner", 6);
        asks("( ) ( + ) (", 2, "partner", 4);
        asks("( " + row("1", 58) + " )", 0, "partner", 59);
        asks(row("(", 30) + " " + row(")", 30), 0, "partner", 59);
        asks(row("(", 30) + " " + row(")", 30), 29, "partner", 30);
    }

    private static void openWithoutPartner() {
        sentence("17: -2 if there is none (an OPEN)");
        asks("(", -2, "partner", 0);
        asks("( 1", -2, "partner", 0);
        asks(") (", -2, "partner", 1);
        asks("( ( )", -2, "partner", 0);
        asks("( ) ( ( ) ( )", -2, "partner", 2);
        for (int place : new int[] {0, 30, 59}) {
            asks(row("(", FULL), -2, "partner", place);
        }
        asks(row("(", 31) + " " + row(")", 29), -2, "partner", 1);
        Text x = new Text("( )");
        x.answers(1, "delete", 1, 2);
        x.answers(-2, "partner", 0);
    }

    private static void closeWithoutPartner() {
        sentence("17: -2 if there is none (a CLOSE)");
        asks(")", -2, "partner", 0);
        asks("1 )", -2, "partner", 1);
        asks(") (", -2, "partner", 0);
        asks("( ) )", -2, "partner", 2);
        asks("( ) ( ) ) ( )", -2, "partner", 4);
        for (int place : new int[] {0, 30, 59}) {
            asks(row(")", FULL), -2, "partner", place);
        }
        asks(row("(", 29) + " " + row(")", 31), -2, "partner", 58);
    }

    private static void partnerAtNoPlace() {
        sentence("17: there is no such place: -1");
        asksAtNoPlace(-1, "partner");
        asks(row("(", FULL), -1, "partner", 60);
        asks("( )", -1, "partner", 2);
    }

    private static void partnerOfNeither() {
        sentence("17: its token is neither: -3");
        for (int place = 0; place <= 4; place++) {
            asks(ALL_KINDS, -3, "partner", place);
        }
        asks("( 5 )", -3, "partner", 1);
        asks("( 6 )", -3, "partner", 1);
        asks(row("5", FULL), -3, "partner", 59);
    }

    // Promise 18

    private static void depthNoPart() {
        sentence("18: it is no part: -1");
        refusesNoPart(-1, "depth");
    }

    private static void depthBeginsWithCloses() {
        sentence("18: OPENs less CLOSEs among the first tokens of a part (a part that begins with CLOSEs)");
        asks(") ( (", 1, "depth", 0, 3);
        asks(") ) ( ( (", 1, "depth", 0, 5);
        asks(") ) ( (", 0, "depth", 0, 4);
        asks(") 1 ( ( ) ( (", 2, "depth", 0, 7);
        asks(row(")", 20) + " " + row("(", 40), 20, "depth", 0, 60);
        asks("( ) ( (", 1, "depth", 1, 4);
    }

    private static void depthOfNoToken() {
        sentence("18: none of its tokens being a beginning, too");
        asks(")", 0, "depth", 0, 1);
        asks(") ) (", 0, "depth", 0, 3);
        asks("( ) )", 0, "depth", 1, 3);
        asks("1 + 2", 0, "depth", 0, 3);
        asks(row(")", FULL), 0, "depth", 0, 60);
    }

    private static void depthOfAllTokens() {
        sentence("18: all of its tokens being a beginning, too");
        asks("(", 1, "depth", 0, 1);
        asks("1 ( (", 2, "depth", 0, 3);
        asks("( ) ( (", 2, "depth", 0, 4);
        asks(row("(", FULL), 60, "depth", 0, 60);
        asks(row("(", FULL), 1, "depth", 59, 60);
    }

    private static void depthOfThePartAlone() {
        sentence("18: the greatest number over all beginnings of a part");
        asks("( ( 1 ) ( ( ) ) )", 3, "depth", 0, 9);
        asks("( ( 1 ) ( ( ) ) )", 2, "depth", 0, 4);
        asks("( ( 1 ) ( ( ) ) )", 1, "depth", 1, 4);
        asks("( ( 1 ) ( ( ) ) )", 0, "depth", 2, 4);
        asks("( ( ( ) ) )", 3, "depth", 0, 6);
        asks("( ( (", 1, "depth", 1, 2);
        asks(row("(", 30) + " " + row(")", 30), 30, "depth", 0, 60);
    }

    private static void whatItIsAndTerms() {
        lastCallThatIsPromised();
        callsBeyondTheLast();
        atMost60Tokens();
        sevenKinds();
        anyInt();
        formsOfExpressions();
        mostBindsMoreThanTimes();
        timesBindsMoreThanPlusAndMinus();
        mostBindsMoreThanPlusAndMinus();
        leftFirst();
        wrappingSum();
        wrappingDifference();
        wrappingProduct();
        greaterOfValues();
        mostOfNegatives();
        whatIsAPart();
        refusedCallsChangeNothing();
        questionsChangeNothing();
        questionsAnswerAlike();
    }

    private static void promises1To8() {
        newObjectIsEmpty();
        insertBefore();
        insertAtNoPlace();
        insertNoKind();
        insertIntoFull();
        insertOrder();
        numberOfNumberOnly();
        deleteParts();
        deleteAll();
        deleteNoPart();
        setNumbers();
        setAtNoPlace();
        setNoNumber();
        copyAnywhere();
        copyBeforeThePart();
        copyInsideThePart();
        copyBehindThePart();
        copyNoPart();
        copyToNoPlace();
        copyTooMany();
        copyJust60();
        copyOrder();
        foldParts();
        foldNoPart();
        foldNoExpression();
        foldOneNumber();
        foldWhole();
        clearEmpty();
        clearFull();
        sizeOfEmptyAndFull();
    }

    private static void promises9To18() {
        kindAtNoPlace();
        numberAtNoPlace();
        numberAtNoNumber();
        isExpressionNoPart();
        isExpressionOrNot();
        valueNoPart();
        valueNoExpression();
        deepBrackets();
        deepBracketsWithOperators();
        longestAtNoPlace();
        longestOfNone();
        longestIsGreatest();
        endingsAtNoPlace();
        endingsOfNone();
        endingsAreCounted();
        expressionsOfEmpty();
        expressionsOfFull();
        expressionsOfFew();
        bestAtNoPlace();
        bestOfNone();
        bestBelowZero();
        bestWrapping();
        bestOverAllEnds();
        partnerOfOpen();
        partnerOfClose();
        openWithoutPartner();
        closeWithoutPartner();
        partnerAtNoPlace();
        partnerOfNeither();
        depthNoPart();
        depthBeginsWithCloses();
        depthOfNoToken();
        depthOfAllTokens();
        depthOfThePartAlone();
    }

    public static void main(String[] args) {
        whatItIsAndTerms();
        promises1To8();
        promises9To18();
        System.out.println(sentences + " sentences: "
            + (wrong == 0 ? "all answers are as due" : wrong + " answers are not as due"));
        if (wrong != 0) {
            System.exit(1);
        }
    }
}
