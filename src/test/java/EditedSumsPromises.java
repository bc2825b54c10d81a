import java.lang.reflect.Constructor;
import java.lang.reflect.Field;
import java.lang.reflect.Method;
import java.lang.reflect.Modifier;
import java.util.Set;
import java.util.TreeSet;

/** Each promise of the document by itself: ordinary inputs, edges and wrong inputs. */
public final class EditedSumsPromises {
    private static final int MIN = Integer.MIN_VALUE;
    private static final int MAX = Integer.MAX_VALUE;
    private static final String SIGNS = "#+-*M()";

    private static int wrong = 0;

    private static void due(String call, Object got, Object want) {
        if (!want.equals(got)) {
            wrong++;
            System.out.println(call + " answered " + got + ", due is " + want);
        }
    }

    /** A text written with spaces between its tokens, M being MOST. */
    private static EditedSums text(String written) {
        EditedSums x = new EditedSums();
        if (!written.isEmpty()) {
            for (String token : written.split(" ")) {
                int kind = token.length() == 1 ? SIGNS.indexOf(token) : -1;
                int number = kind > 0 ? 77 : Integer.parseInt(token);
                x.insert(x.size(), Math.max(kind, 0), number);
            }
        }
        return x;
    }

    private static String read(EditedSums x) {
        StringBuilder written = new StringBuilder();
        for (int place = 0; place < x.size(); place++) {
            int kind = x.kindAt(place);
            written.append(place == 0 ? "" : " ");
            written.append(kind == 0 ? "" + x.numberAt(place) : "" + SIGNS.charAt(kind));
        }
        return written.toString();
    }

    private static EditedSums ones(int many) {
        EditedSums x = new EditedSums();
        for (int k = 0; k < many; k++) {
            x.insert(k, 0, k);
        }
        return x;
    }

    private static void publicFace() {
        Set<String> face = new TreeSet<>();
        for (Constructor<?> c : EditedSums.class.getDeclaredConstructors()) {
            if (!Modifier.isPrivate(c.getModifiers())) {
                face.add("new/" + c.getParameterCount());
            }
        }
        for (Method m : EditedSums.class.getDeclaredMethods()) {
            if (!Modifier.isPrivate(m.getModifiers())) {
                face.add(m.getReturnType() + " " + m.getName() + "/" + m.getParameterCount());
            }
        }
        for (Field f : EditedSums.class.getDeclaredFields()) {
            if (!Modifier.isPrivate(f.getModifiers())) {
                face.add("field " + f.getName());
            }
        }
        due("the public face", face, new TreeSet<>(Set.of("new/0", "int insert/3", "int delete/2",
                "int set/2", "int copy/3", "int fold/2", "int clear/0", "int size/0", "int kindAt/1",
                "int numberAt/1", "int isExpression/2", "int value/2", "int longest/1",
                "int endings/1", "int expressions/0", "int best/1", "int partner/1", "int depth/2")));
    }

    private static void promise1NewObject() {
        EditedSums x = new EditedSums();
        due("1 size()", x.size(), 0);
        due("1 kindAt(0)", x.kindAt(0), -1);
        due("1 expressions()", x.expressions(), 0);
        due("1 clear()", x.clear(), 0);
        EditedSums y = new EditedSums();
        x.insert(0, 0, 5);
        due("1 size() of another object", y.size(), 0);
    }

    private static void promise2Insert() {
        EditedSums x = new EditedSums();
        due("2 insert(0, 0, 5) first", x.insert(0, 0, 5), 1);
        due("2 insert(0, 5, 9) at the start", x.insert(0, 5, 9), 2);
        due("2 insert(2, 6, 9) at the end", x.insert(2, 6, 9), 3);
        due("2 insert(1, 0, MIN) amid", x.insert(1, 0, MIN), 4);
        due("2 insert(2, 4, 9) amid", x.insert(2, 4, 9), 5);
        due("2 text", read(x), "( " + MIN + " M 5 )");
        due("2 insert(-1, 0, 1)", x.insert(-1, 0, 1), -1);
        due("2 insert(6, 0, 1)", x.insert(6, 0, 1), -1);
        due("2 insert(MIN, 0, 1)", x.insert(MIN, 0, 1), -1);
        due("2 insert(MAX, 0, 1)", x.insert(MAX, 0, 1), -1);
        due("2 insert(6, 7, 1), place first", x.insert(6, 7, 1), -1);
        due("2 insert(0, -1, 1)", x.insert(0, -1, 1), -2);
        due("2 insert(0, 7, 1)", x.insert(0, 7, 1), -2);
        due("2 insert(5, MIN, 1)", x.insert(5, MIN, 1), -2);
        due("2 insert(5, MAX, 1)", x.insert(5, MAX, 1), -2);
        due("2 text after refusals", read(x), "( " + MIN + " M 5 )");
        for (int kind = 0; kind <= 6; kind++) {
            EditedSums y = new EditedSums();
            due("2 insert(0, " + kind + ", 3)", y.insert(0, kind, 3), 1);
            due("2 kindAt(0)", y.kindAt(0), kind);
        }
        insertIntoFull();
    }

    private static void insertIntoFull() {
        EditedSums x = ones(59);
        due("2 insert as the 60th", x.insert(0, 0, 59), 60);
        String before = read(x);
        due("2 insert(0, 0, 1) as the 61st", x.insert(0, 0, 1), -3);
        due("2 insert(60, 0, 1) as the 61st", x.insert(60, 0, 1), -3);
        due("2 insert(61, 7, 1) when full", x.insert(61, 7, 1), -1);
        due("2 insert(60, 7, 1) when full", x.insert(60, 7, 1), -2);
        due("2 text when full", read(x), before);
    }

    private static void promise3Delete() {
        EditedSums x = text("1 + 2 - 3 * 4");
        due("3 delete(1, 3)", x.delete(1, 3), 5);
        due("3 text", read(x), "1 - 3 * 4");
        due("3 delete(0, 1)", x.delete(0, 1), 4);
        due("3 delete(3, 4)", x.delete(3, 4), 3);
        due("3 text", read(x), "- 3 *");
        due("3 delete(-1, 1)", x.delete(-1, 1), -1);
        due("3 delete(0, 4)", x.delete(0, 4), -1);
        due("3 delete(1, 1)", x.delete(1, 1), -1);
        due("3 delete(2, 1)", x.delete(2, 1), -1);
        due("3 delete(3, 3)", x.delete(3, 3), -1);
        due("3 delete(MIN, MAX)", x.delete(MIN, MAX), -1);
        due("3 delete(MAX, MIN)", x.delete(MAX, MIN), -1);
        due("3 text after refusals", read(x), "- 3 *");
        due("3 delete(0, 3)", x.delete(0, 3), 0);
        due("3 text", read(x), "");
        due("3 delete(0, 60)", ones(60).delete(0, 60), 0);
    }

    private static void promise4Set() {
        EditedSums x = text("( 1 )");
        due("4 set(1, MIN)", x.set(1, MIN), 1);
        due("4 text", read(x), "( " + MIN + " )");
        due("4 set(1, MAX)", x.set(1, MAX), 1);
        due("4 set(0, 3)", x.set(0, 3), -2);
        due("4 set(2, 3)", x.set(2, 3), -2);
        due("4 set(-1, 3)", x.set(-1, 3), -1);
        due("4 set(3, 3)", x.set(3, 3), -1);
        due("4 set(MIN, 3)", x.set(MIN, 3), -1);
        due("4 set(MAX, 3)", x.set(MAX, 3), -1);
        due("4 text after refusals", read(x), "( " + MAX + " )");
        due("4 numberAt(0)", x.numberAt(0), 0);
    }

    private static void promise5Copy() {
        EditedSums x = text("1 + 2");
        due("5 copy(0, 3, 0)", x.copy(0, 3, 0), 6);
        due("5 text", read(x), "1 + 2 1 + 2");
        x = text("1 + 2 *");
        due("5 copy(0, 3, 4)", x.copy(0, 3, 4), 7);
        due("5 text", read(x), "1 + 2 * 1 + 2");
        x = text("1 + 2 * 3");
        due("5 copy(1, 5, 2), into itself", x.copy(1, 5, 2), 9);
        due("5 text", read(x), "1 + + 2 * 3 2 * 3");
        x = text("1 + 2 * 3");
        due("5 copy(3, 5, 1), from behind", x.copy(3, 5, 1), 7);
        due("5 text", read(x), "1 * 3 + 2 * 3");
        due("5 copy(0, 0, -1)", x.copy(0, 0, -1), -1);
        due("5 copy(0, 8, 0)", x.copy(0, 8, 0), -1);
        due("5 copy(-1, 2, 0)", x.copy(-1, 2, 0), -1);
        due("5 copy(3, 2, 0)", x.copy(3, 2, 0), -1);
        due("5 copy(MIN, MAX, 0)", x.copy(MIN, MAX, 0), -1);
        due("5 copy(0, 1, -1)", x.copy(0, 1, -1), -2);
        due("5 copy(0, 1, 8)", x.copy(0, 1, 8), -2);
        due("5 copy(0, 1, MAX)", x.copy(0, 1, MAX), -2);
        due("5 copy(0, 1, MIN)", x.copy(0, 1, MIN), -2);
        due("5 text after refusals", read(x), "1 * 3 + 2 * 3");
        copyIntoFull();
    }

    private static void copyIntoFull() {
        EditedSums x = ones(31);
        String before = read(x);
        due("5 copy(0, 30, 0) of 31", x.copy(0, 30, 0), -3);
        due("5 copy(0, 30, 32) of 31", x.copy(0, 30, 32), -2);
        due("5 text when there is no room", read(x), before);
        due("5 copy(0, 29, 31) of 31", x.copy(0, 29, 31), 60);
        due("5 numberAt(59)", x.numberAt(59), 28);
        due("5 copy(0, 1, 60) when full", x.copy(0, 1, 60), -3);
        due("5 copy(0, 60, 0) when full", x.copy(0, 60, 0), -3);
    }

    private static void promise6Fold() {
        EditedSums x = text("1 + ( 2 - 7 ) * 3");
        due("6 fold(3, 6)", x.fold(3, 6), 7);
        due("6 text", read(x), "1 + ( -5 ) * 3");
        due("6 fold(2, 5)", x.fold(2, 5), 5);
        due("6 text", read(x), "1 + -5 * 3");
        due("6 fold(2, 3), of one NUMBER", x.fold(2, 3), 5);
        due("6 fold(1, 2)", x.fold(1, 2), -2);
        due("6 fold(0, 4)", x.fold(0, 4), -2);
        due("6 fold(0, 6)", x.fold(0, 6), -1);
        due("6 fold(-1, 3)", x.fold(-1, 3), -1);
        due("6 fold(2, 2)", x.fold(2, 2), -1);
        due("6 fold(MAX, MIN)", x.fold(MAX, MIN), -1);
        due("6 text after refusals", read(x), "1 + -5 * 3");
        due("6 fold(0, 5)", x.fold(0, 5), 1);
        due("6 text", read(x), "-14");
        x = text("9 * 1 + 2");
        due("6 fold(2, 5), against the binding", x.fold(2, 5), 3);
        due("6 text", read(x), "9 * 3");
    }

    private static void promise7Clear() {
        EditedSums x = text("1 + 2");
        due("7 clear()", x.clear(), 3);
        due("7 size()", x.size(), 0);
        due("7 kindAt(0)", x.kindAt(0), -1);
        due("7 numberAt(0)", x.numberAt(0), 0);
        due("7 clear() again", x.clear(), 0);
        due("7 insert(0, 2, 8)", x.insert(0, 2, 8), 1);
        due("7 text", read(x), "-");
        due("7 clear() of a full one", ones(60).clear(), 60);
    }

    private static void promises8To10Reading() {
        EditedSums x = text("7 + - * M ( )");
        due("8 size()", x.size(), 7);
        due("8 size() of a full one", ones(60).size(), 60);
        for (int place = 0; place < 7; place++) {
            due("9 kindAt(" + place + ")", x.kindAt(place), place);
            due("10 numberAt(" + place + ")", x.numberAt(place), place == 0 ? 7 : 0);
        }
        for (int place : new int[] {-1, 7, 59, 60, 61, MIN, MAX}) {
            due("9 kindAt(" + place + ")", x.kindAt(place), -1);
            due("10 numberAt(" + place + ")", x.numberAt(place), 0);
        }
        x = text("7 8 +");
        x.delete(0, 1);
        due("9 kindAt(2) of what was taken out", x.kindAt(2), -1);
        due("10 numberAt(1), an operator", x.numberAt(1), 0);
        due("10 numberAt(59) of a full one", ones(60).numberAt(59), 59);
    }

    private static void promise11IsExpression() {
        for (String yes : new String[] {"1", "( 1 )", "( ( 1 ) )", "1 + 2", "1 - 2 * 3 M 4",
                "( 1 + 2 ) * ( 3 )", "( 1 ) M 2", "1 * ( ( 2 ) - 3 )"}) {
            EditedSums x = text(yes);
            due("11 isExpression of " + yes, x.isExpression(0, x.size()), 1);
        }
        for (String no : new String[] {"+", "- 1", "1 -", "1 2", "( )", "(", ")", "( 1", "1 )", ") 1 (",
                "1 + * 2", "( 1 ) ( 2 )", "1 ( 2 )", "( 1 ) 2", "( 1 + ) 2", "1 ) + ( 2", "( + 1 )",
                "1 + ( )", ") + ("}) {
            EditedSums x = text(no);
            due("11 isExpression of " + no, x.isExpression(0, x.size()), 0);
        }
        EditedSums x = text("( 1 + 2 )");
        due("11 isExpression(1, 4)", x.isExpression(1, 4), 1);
        due("11 isExpression(0, 4)", x.isExpression(0, 4), 0);
        due("11 isExpression(-1, 4)", x.isExpression(-1, 4), -1);
        due("11 isExpression(0, 6)", x.isExpression(0, 6), -1);
        due("11 isExpression(1, 1)", x.isExpression(1, 1), -1);
        due("11 isExpression(3, 1)", x.isExpression(3, 1), -1);
        due("11 isExpression(MIN, MAX)", x.isExpression(MIN, MAX), -1);
        due("11 isExpression(0, 0) of none", new EditedSums().isExpression(0, 0), -1);
    }

    private static void valueOfWhole(String written, int want) {
        EditedSums x = text(written);
        due("12 value of " + written, x.value(0, x.size()), want);
        due("12 text after value", read(x), written);
    }

    private static void promise12Value() {
        valueOfWhole("5", 5);
        valueOfWhole("1 - 2 - 3", -4);
        valueOfWhole("1 - 2 + 3", 2);
        valueOfWhole("1 - ( 2 - 3 )", 2);
        valueOfWhole("2 + 3 * 4", 14);
        valueOfWhole("2 * 3 + 4", 10);
        valueOfWhole("( 2 + 3 ) * 4", 20);
        valueOfWhole("2 * 3 M 4", 8);
        valueOfWhole("2 M 3 * 4", 12);
        valueOfWhole("-2 * 3 M 4 * 5", -40);
        valueOfWhole("1 + 2 M 5 - 1", 5);
        valueOfWhole("1 M 2 + 5 M 3", 7);
        valueOfWhole("-5 M -3 M -4", -3);
        valueOfWhole("( 2 * 3 ) M 4", 6);
        valueOfWhole(MIN + " M " + MIN, MIN);
        valueOfWhole(MAX + " + 1", MIN);
        valueOfWhole(MIN + " - 1", MAX);
        valueOfWhole("0 - " + MIN, MIN);
        valueOfWhole("65536 * 65536", 0);
        valueOfWhole(MAX + " * " + MAX, 1);
        valueOfWhole(MIN + " * -1", MIN);
        valueOfWhole(MAX + " + 1 M " + MAX, -2);
        valueOfWhole("( " + MAX + " + 1 ) M 0", 0);
        EditedSums x = text("2 + 3 * 4 )");
        due("12 value(0, 3)", x.value(0, 3), 5);
        due("12 value(2, 5)", x.value(2, 5), 12);
        due("12 value(0, 4)", x.value(0, 4), 0);
        due("12 value(0, 6)", x.value(0, 6), 0);
        due("12 value(0, 7)", x.value(0, 7), 0);
        due("12 value(-1, 1)", x.value(-1, 1), 0);
        due("12 value(2, 2)", x.value(2, 2), 0);
        due("12 value(MAX, MIN)", x.value(MAX, MIN), 0);
        deepestBrackets();
    }

    private static void deepestBrackets() {
        EditedSums x = new EditedSums();
        x.insert(0, 0, 6);
        for (int k = 0; k < 29; k++) {
            x.insert(0, 5, 0);
            x.insert(x.size(), 6, 0);
        }
        due("12 value in 29 brackets", x.value(0, 59), 6);
        due("15 expressions in 29 brackets", x.expressions(), 30);
        due("17 partner(0) of 29", x.partner(0), 58);
        due("18 depth of 29", x.depth(0, 59), 29);
        x.clear();
        for (int k = 0; k < 60; k++) {
            x.insert(k, 5, 0);
        }
        due("12 value of 60 OPENs", x.value(0, 60), 0);
        due("16 best of 60 OPENs", x.best(0), 0);
        due("17 partner(0) of 60 OPENs", x.partner(0), -2);
        due("18 depth of 60 OPENs", x.depth(0, 60), 60);
    }

    private static void promise13Longest() {
        EditedSums x = text("1 + 2 ) * 3 (");
        due("13 longest(0)", x.longest(0), 3);
        due("13 longest(1)", x.longest(1), -2);
        due("13 longest(2)", x.longest(2), 3);
        due("13 longest(3)", x.longest(3), -2);
        due("13 longest(5)", x.longest(5), 6);
        due("13 longest(6)", x.longest(6), -2);
        due("13 longest(7)", x.longest(7), -1);
        due("13 longest(-1)", x.longest(-1), -1);
        due("13 longest(MIN)", x.longest(MIN), -1);
        due("13 longest(MAX)", x.longest(MAX), -1);
        due("13 longest(0) of none", new EditedSums().longest(0), -1);
        due("13 longest(0) with an end to spare", text("( 1 ) + 2 -").longest(0), 5);
        due("13 longest(0) of a whole text", text("( 1 ) + 2").longest(0), 5);
    }

    private static void promise14Endings() {
        EditedSums x = text("1 + ( 2 - 3 ) * 4 )");
        due("14 endings(0)", x.endings(0), 3);
        due("14 endings(1)", x.endings(1), 0);
        due("14 endings(2)", x.endings(2), 2);
        due("14 endings(3)", x.endings(3), 2);
        due("14 endings(8)", x.endings(8), 1);
        due("14 endings(9)", x.endings(9), 0);
        due("14 endings(10)", x.endings(10), -1);
        due("14 endings(-1)", x.endings(-1), -1);
        due("14 endings(MIN)", x.endings(MIN), -1);
        due("14 endings(MAX)", x.endings(MAX), -1);
        due("14 endings(0) of none", new EditedSums().endings(0), -1);
    }

    private static void promise15Expressions() {
        due("15 expressions() of none", new EditedSums().expressions(), 0);
        due("15 expressions() of 1 + 2", text("1 + 2").expressions(), 3);
        due("15 expressions() of ( 1 + 2 )", text("( 1 + 2 )").expressions(), 4);
        due("15 expressions() of operators", text("+ - * M ) (").expressions(), 0);
        due("15 expressions() of 60 NUMBERs", ones(60).expressions(), 60);
        EditedSums x = new EditedSums();
        for (int k = 0; k < 60; k++) {
            x.insert(k, k % 2 == 0 ? 0 : 1, 1);
        }
        due("15 expressions() of 30 summands", x.expressions(), 465);
    }

    private static void promise16Best() {
        EditedSums x = text("1 - 2 + 3 * -4");
        due("16 best(0)", x.best(0), 2);
        due("16 best(1)", x.best(1), 0);
        due("16 best(2)", x.best(2), 5);
        due("16 best(4)", x.best(4), 3);
        due("16 best(6), below 0", x.best(6), -4);
        due("16 best(7)", x.best(7), 0);
        due("16 best(-1)", x.best(-1), 0);
        due("16 best(MIN)", x.best(MIN), 0);
        due("16 best(MAX)", x.best(MAX), 0);
        due("16 best(0), all below 0", text("-7 + 2 - 9").best(0), -5);
        due("16 best(0) of the least int", text("" + MIN).best(0), MIN);
        due("16 best(0), wrapping", text(MIN + " - 1").best(0), MAX);
        due("16 best(0), the last one", text("-7 - 1 + 20").best(0), 12);
    }

    private static void promise17Partner() {
        EditedSums x = text("( 1 + ( ) ( 2 ) ) ) (");
        int[] want = {8, -3, -3, 4, 3, 7, -3, 5, 0, -2, -2};
        for (int place = 0; place < want.length; place++) {
            due("17 partner(" + place + ")", x.partner(place), want[place]);
        }
        due("17 partner(11)", x.partner(11), -1);
        due("17 partner(-1)", x.partner(-1), -1);
        due("17 partner(MIN)", x.partner(MIN), -1);
        due("17 partner(MAX)", x.partner(MAX), -1);
        x = text("( ( ) ) )");
        due("17 partner(3), not the OPEN beside", x.partner(3), 0);
        due("17 partner(4) of none left", x.partner(4), -2);
        x = text("( ( )");
        due("17 partner(0) of none left", x.partner(0), -2);
        due("17 partner(1)", x.partner(1), 2);
        x.delete(2, 3);
        due("17 partner(1), its CLOSE taken out", x.partner(1), -2);
    }

    private static void promise18Depth() {
        EditedSums x = text("( ( 1 ) ) ) ( ( (");
        due("18 depth(0, 9)", x.depth(0, 9), 2);
        due("18 depth(0, 1), all being a beginning", x.depth(0, 1), 1);
        due("18 depth(2, 3)", x.depth(2, 3), 0);
        due("18 depth(3, 6), none being a beginning", x.depth(3, 6), 0);
        due("18 depth(3, 9)", x.depth(3, 9), 0);
        due("18 depth(5, 9)", x.depth(5, 9), 2);
        due("18 depth(6, 9)", x.depth(6, 9), 3);
        due("18 depth(0, 10)", x.depth(0, 10), -1);
        due("18 depth(-1, 2)", x.depth(-1, 2), -1);
        due("18 depth(2, 2)", x.depth(2, 2), -1);
        due("18 depth(3, 2)", x.depth(3, 2), -1);
        due("18 depth(MIN, MAX)", x.depth(MIN, MAX), -1);
    }

    public static void main(String[] args) {
        publicFace();
        promise1NewObject();
        promise2Insert();
        promise3Delete();
        promise4Set();
        promise5Copy();
        promise6Fold();
        promise7Clear();
        promises8To10Reading();
        promise11IsExpression();
        promise12Value();
        promise13Longest();
        promise14Endings();
        promise15Expressions();
        promise16Best();
        promise17Partner();
        promise18Depth();
        System.out.println(wrong == 0 ? "all answers are as due" : wrong + " answers are not as due");
        if (wrong != 0) {
            System.exit(1);
        }
    }
}
