/** Promises 22 to 24: rests, rest (ASK), clear. */
public final class MenTest {
    public static void main(String[] args) {
        restsByHand();
        restsOfMany();
        restElse();
        clear();
        Check.end();
    }

    /** Two men who are MET and TROD so often: she stands in their cells, or left of them. */
    private static ShadowTwin men(int met, int trod, int otherMet, int otherTrod, String fond) {
        ShadowTwin x = Check.told("room 4 4;her 0 0;sun 0 1 1;man a 0 1;man b 2 1;law tired 0;law fond " + fond + ";");
        stand(x, 0, 1, met);
        stand(x, 0, 0, trod);
        stand(x, 2, 1, otherMet);
        stand(x, 2, 0, otherTrod);
        Check.due("met", x.man(0, 2), met);
        Check.due("trod", x.man(0, 3), trod);
        Check.due("the other's met", x.man(1, 2), otherMet);
        Check.due("the other's trod", x.man(1, 3), otherTrod);
        return x;
    }

    private static void stand(ShadowTwin x, int row, int column, int hours) {
        for (int i = 0; i < 8 && x.where(0) < row; i++) {
            x.step(2);
        }
        for (int i = 0; i < 8 && x.where(0) > row; i++) {
            x.step(0);
        }
        for (int i = 0; i < 8 && x.where(1) < column; i++) {
            x.step(1);
        }
        for (int i = 0; i < 8 && x.where(1) > column; i++) {
            x.step(3);
        }
        x.go(hours);
    }

    private static void rests(ShadowTwin x, String what, int... due) {
        Check.due(what + ": rests(0, 1)", x.rests(0, 1), due.length);
        for (int k = 0; k < due.length; k++) {
            Check.due(what + ": rest(0, 1, " + k + ")", x.rest(0, 1, k), due[k]);
        }
        Check.due(what + ": no more", x.rest(0, 1, due.length), -2);
    }

    private static void restsByHand() {
        rests(men(0, 0, 0, 0, "1"), "nothing at all", 0, 1, 10, 11);
        rests(men(3, 3, 3, 3, "1"), "alike", 1, 10);
        rests(men(8, 1, 8, 1, "1"), "both ask her", 0);
        rests(men(1, 8, 1, 8, "1"), "both ask it", 11);
        rests(men(9, 0, 0, 9, "1"), "each his own", 1);
        rests(men(0, 9, 9, 0, "1"), "the other way round", 10);
        // half of 5 is 2, as much as TROD: neither has more otherwise
        rests(men(5, 2, 5, 2, "1"), "half is cut", 0, 1, 10);
        // who is more FOND has 1 more of what both ask: 2 and 1 are 3
        rests(men(5, 3, 5, 2, "1"), "more fond", 0, 1, 10);
        rests(men(5, 4, 5, 2, "1"), "not enough", 1, 10);
        rests(men(5, 4, 5, 2, "0"), "as fond", 1, 10);
        rests(men(5, 3, 5, 2, "0"), "as fond, too", 1, 10);
    }

    private static int share(ShadowTwin x, int man, int asks, int rivalAsks) {
        int own = x.man(man, 2 + asks);
        if (asks != rivalAsks) {
            return own;
        }
        return own / 2 + (x.man(man, 4) > x.man(1 - man, 4) ? 1 : 0);
    }

    private static void restsOfMany() {
        for (int i = 0; i < 256; i++) {
            ShadowTwin x = men(i & 3, i >> 2 & 3, i >> 4 & 3, i >> 6, "1");
            int many = 0;
            for (int first = 0; first < 2; first++) {
                for (int second = 0; second < 2; second++) {
                    if (share(x, 0, first, second) >= share(x, 0, 1 - first, second)
                            && share(x, 1, second, first) >= share(x, 1, 1 - second, first)) {
                        Check.due("rest of " + i, x.rest(0, 1, many), 10 * first + second);
                        many++;
                    }
                }
            }
            Check.due("rests of " + i, x.rests(0, 1), many);
            Check.due("rests of the other one first", x.rests(1, 0), many);
        }
    }

    private static void restElse() {
        ShadowTwin x = men(9, 0, 0, 9, "1");
        Check.due("the second one's first", x.rest(1, 0, 0), 10);
        Check.due("rests(0, 0)", x.rests(0, 0), -1);
        Check.due("rests(0, 2)", x.rests(0, 2), -1);
        Check.due("rests(2, 0)", x.rests(2, 0), -1);
        Check.due("rests(-1, 0)", x.rests(-1, 0), -1);
        Check.due("rests(0, -1)", x.rests(0, -1), -1);
        Check.due("rest(0, 0, 0)", x.rest(0, 0, 0), -1);
        Check.due("rest(0, 2, 0)", x.rest(0, 2, 0), -1);
        Check.due("rest(-1, 1, 0)", x.rest(-1, 1, 0), -1);
        Check.due("rest(0, 1, -1)", x.rest(0, 1, -1), -1);
        Check.due("rest(0, 1, 4)", x.rest(0, 1, 4), -2);
        Check.due("rest(0, 1, most)", x.rest(0, 1, Integer.MAX_VALUE), -2);
    }

    private static void fraction(int cloud, int n, long above, long below) {
        ShadowTwin x = Check.told("sun 0 0 1;cloud " + cloud + ";");
        Check.due("clear(" + n + ", 0) of " + cloud, x.clear(n, 0), above);
        Check.due("clear(" + n + ", 1) of " + cloud, x.clear(n, 1), below);
    }

    private static void clear() {
        fraction(0, 0, 1, 1);
        fraction(0, 6, 1, 1);
        fraction(100, 0, 1, 1);
        fraction(100, 1, 0, 1);
        fraction(100, 6, 0, 1);
        fraction(40, 1, 3, 5);
        fraction(40, 2, 9, 25);
        fraction(50, 6, 1, 64);
        fraction(25, 3, 27, 64);
        fraction(1, 6, 99L * 99 * 99 * 99 * 99 * 99, 1000000000000L);
        fraction(99, 6, 1, 1000000000000L);
        fraction(96, 2, 1, 625);
        ShadowTwin x = new ShadowTwin();
        Check.due("clear(7, 0)", x.clear(7, 0), -1);
        Check.due("clear(-1, 0)", x.clear(-1, 0), -1);
        Check.due("clear(0, 2)", x.clear(0, 2), -1);
        Check.due("clear(0, -1)", x.clear(0, -1), -1);
    }
}
