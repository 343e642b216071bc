/** Every short row of tokens as an E, compared with the document's grammar read from top to bottom. */
public final class EdgeLawTest {
    private static final String[] TOKENS = {"2", "not", "and", "or", "<", "-", "/", "(", ")", "lit"};
    private static final int LONGEST = 5;
    private static final int[] ROW = new int[LONGEST];
    private static int size;
    private static int next;
    private static int failed;
    private static boolean isError;

    public static void main(String[] args) {
        Check.about("E: A { or A }. A: B { and B }. B: not B | C. C: S [ ( < | <= | = | <> | >= | > ) S ]. S: T { ( + | - ) T }."
            + " T: P { ( * | / ) P }. P: N | NAME | '(' E ')';");
        int rows = 1;
        for (size = 0; size <= LONGEST; size++) {
            for (int row = 0; row < rows; row++) {
                int rest = row;
                for (int i = 0; i < size; i++) {
                    ROW[i] = rest % TOKENS.length;
                    rest /= TOKENS.length;
                }
                compare(new ShadowTwin());
            }
            rows *= TOKENS.length;
        }
        longRows(new ShadowTwin());
        Check.end();
    }

    private static void compare(ShadowTwin x) {
        StringBuilder s = new StringBuilder("law tired");
        int[] places = new int[size + 1];
        for (int i = 0; i < size; i++) {
            s.append(' ');
            places[i] = s.length();
            s.append(TOKENS[ROW[i]]);
        }
        places[size] = s.length();
        s.append(';');
        next = 0;
        failed = -1;
        isError = false;
        long value = readE();
        if (failed < 0 && next < size) {
            failed = next;
        }
        String text = s.toString();
        Check.due(text, Check.tell(x, text), failed < 0 ? 1 : -1);
        Check.due(text + ": fault", x.fault(0), failed < 0 ? 0 : 1);
        Check.due(text + ": place", x.fault(1), failed < 0 ? -1 : places[failed]);
        if (failed < 0) {
            Check.due(text + ": value", x.law(2, 0), isError ? Long.MIN_VALUE : value);
        }
    }

    private static boolean takes(String token) {
        boolean is = failed < 0 && next < size && TOKENS[ROW[next]].equals(token);
        next += is ? 1 : 0;
        return is;
    }

    private static long readE() {
        long value = readA();
        while (takes("or")) {
            long right = readA();
            value = value != 0 || right != 0 ? 1 : 0;
        }
        return value;
    }

    private static long readA() {
        long value = readB();
        while (takes("and")) {
            long right = readB();
            value = value != 0 && right != 0 ? 1 : 0;
        }
        return value;
    }

    private static long readB() {
        return takes("not") ? readB() == 0 ? 1 : 0 : readC();
    }

    private static long readC() {
        long value = readS();
        return takes("<") ? value < readS() ? 1 : 0 : value;
    }

    private static long readS() {
        long value = readT();
        while (takes("-")) {
            value -= readT();
        }
        return value;
    }

    private static long readT() {
        long value = readP();
        while (takes("/")) {
            long right = readP();
            isError |= right == 0;
            value = right == 0 ? 0 : value / right;
        }
        return value;
    }

    private static long readP() {
        if (takes("2")) {
            return 2;
        }
        if (takes("lit")) {
            return 0;
        }
        if (takes("(")) {
            long value = readE();
            if (!takes(")") && failed < 0) {
                failed = next;
            }
            return value;
        }
        failed = failed < 0 ? next : failed;
        return 0;
    }

    private static void longRows(ShadowTwin x) {
        Check.about("S: T { ( + | - ) T }. T: P { ( * | / ) P }.");
        String[] es = {"9-1-2*3-8/2/2", "2*3+4*5-6/3", "1+2<3+1 and 4-1=3 or 1/1<>1", "not 1+1=2 or not not 7", "1<2 and 2<=2 and 3>=3 and 4>3",
            "(1 or 0)*(2 and 3)+(not 0)*5", "((((((((1+1))))))))*3", "7-(6-(5-(4-(3-(2-(1-0))))))", "0 or 0 and 1 or 1 and 1"};
        long[] due = {9 - 1 - 6 - 2, 24, 1, 1, 1, 6, 6, 7 - 6 + 5 - 4 + 3 - 2 + 1, 1};
        for (int i = 0; i < es.length; i++) {
            Check.tell(x, "law tired " + es[i] + ";");
            Check.due(es[i], x.law(2, 0), due[i]);
        }
    }
}
