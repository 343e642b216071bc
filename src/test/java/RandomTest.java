import java.util.Random;

/** Runs by chance, always the same ones: nothing throws, and answers agree with one another. */
public final class RandomTest {
    private static final Random DICE = new Random(20261118);
    private static final int[] ODD = {-1, -2147483648, 2147483647, 5, 9, 24, 99, 100, 41};

    public static void main(String[] args) {
        for (int run = 0; run < 1500; run++) {
            ShadowTwin x = Check.told(text());
            for (int i = 0; i < 12; i++) {
                anyCalls(x);
                relations(x);
            }
        }
        for (int run = 0; run < 20000; run++) {
            brokenText();
        }
        Check.end();
    }

    private static int upTo(int most) {
        return DICE.nextInt(most + 1);
    }

    private static int odd(int most) {
        return upTo(9) == 0 ? ODD[upTo(ODD.length - 1)] : upTo(most);
    }

    private static String text() {
        int rows = 1 + upTo(7);
        int columns = 1 + upTo(7);
        StringBuilder s = new StringBuilder("room " + rows + " " + columns + ";");
        s.append("her ").append(rows - 1).append(' ').append(columns - 1).append(';');
        if (rows * columns > 2 && upTo(1) == 0) {
            s.append(columns > 1 ? "wall 0 0;" : "wall 1 0;");
        }
        for (int i = upTo(3); i > 0; i--) {
            s.append("sun ").append(i * 6 - upTo(5)).append(' ').append(upTo(3)).append(' ').append(upTo(4)).append(';');
        }
        for (int i = upTo(4); i > 0; i--) {
            s.append("lamp ").append((char) ('a' + i)).append(cell(rows, columns)).append(' ').append(1 + upTo(8)).append(';');
        }
        for (int i = upTo(10); i > 0; i--) {
            s.append("step ").append(upTo(30)).append(' ').append(upTo(3)).append(';');
        }
        for (int i = upTo(8); i > 0; i--) {
            s.append("doing ").append((char) ('a' + i)).append(' ').append(upTo(1)).append(cell(rows, columns))
                .append(' ').append(1 + upTo(98)).append(';');
        }
        for (int i = upTo(4); i > 0; i--) {
            s.append("man ").append((char) ('a' + i)).append(cell(rows, columns)).append(';');
        }
        // 0 or 100, so that what is drawn is as it goes
        s.append("cloud ").append(100 * upTo(1)).append(";seed ").append(upTo(99999)).append(';');
        String[] laws = {"", "law long far+lit-done;", "law tired weary/2+1;law long far*2-weary;", "law fond trod*3-met;law long hour/(3-lit);"};
        return s.append(laws[upTo(3)]).toString();
    }

    private static String cell(int rows, int columns) {
        return " " + upTo(rows - 1) + " " + upTo(columns - 1);
    }

    private static void anyCalls(ShadowTwin x) {
        x.feed(DICE.nextInt(), DICE.nextInt(), DICE.nextInt(), DICE.nextInt(), DICE.nextInt());
        x.text(-1 - upTo(3));
        x.fault(odd(1));
        x.named(odd(2), DICE.nextInt());
        x.where(odd(5));
        x.man(odd(3), odd(5));
        x.lamp(odd(3), odd(3));
        x.wall(odd(7), odd(7));
        x.law(odd(2), odd(3));
        x.step(odd(3));
        x.light(odd(3), DICE.nextBoolean());
        x.again(odd(7));
        x.go(odd(3));
        x.ahead(odd(99), odd(4));
        x.when(odd(7));
        x.way(odd(7), odd(7));
        x.cast(odd(7), odd(7), odd(23));
        x.lampsFor(odd(7), odd(7));
        x.rests(odd(3), odd(3));
        x.rest(odd(3), odd(3), odd(4));
        x.clear(odd(6), odd(1));
        x.see(odd(40), odd(1), odd(7), odd(7), DICE.nextBoolean());
        x.out(odd(23));
        x.known(odd(24) - 1);
        x.homes(odd(1));
        x.chance(odd(1000), odd(20), odd(8));
        x.tried(odd(5), odd(3), odd(30));
        x.count(odd(14));
    }

    private static void relations(ShadowTwin x) {
        goIsAhead(x);
        whenIsAhead(x);
        planIsLived(x);
        waysAreNear(x);
        castIsWhole(x);
        undoneIsAsBefore(x);
    }

    private static int fond(ShadowTwin x) {
        int sum = 0;
        for (int man = 0; man < x.count(2); man++) {
            sum += x.man(man, 4);
        }
        return sum;
    }

    private static void goIsAhead(ShadowTwin x) {
        int n = upTo(30);
        int[] ahead = new int[5];
        for (int what = 0; what < 5; what++) {
            ahead[what] = x.ahead(n, what);
        }
        int chances = x.chance(upTo(1000), Math.max(1, n), x.count(7) + x.ahead(Math.max(1, n), 0));
        Check.due("chance of what is sure", chances, 10);
        Check.due("tried as it goes", x.tried(0, 0, n), ahead[1]);
        x.keep();
        String before = Check.all(x);
        int[] first = {x.count(7), x.count(8), x.count(9), fond(x), x.count(10)};
        x.go(n);
        int[] then = {x.count(7), x.count(8), x.count(9), fond(x), x.count(10)};
        for (int what = 0; what < 5; what++) {
            Check.due("ahead(" + n + ", " + what + ")", ahead[what], then[what] - first[what]);
        }
        x.back();
        Check.same("back", noUndo(Check.all(x)), noUndo(before));
    }

    /** back() leaves nothing to undo, the one difference: the fifteenth number. */
    private static String noUndo(String all) {
        String[] parts = all.split(" ");
        parts[14] = "0";
        return String.join(" ", parts);
    }

    private static void whenIsAhead(ShadowTwin x) {
        for (int doing = 0; doing < x.count(1); doing++) {
            int hours = x.when(doing);
            x.keep();
            if (hours > 0) {
                x.go(hours - 1);
                Check.due("not done yet", x.doing(doing, 4), 0);
                x.go(1);
            }
            Check.due("done then", x.doing(doing, 4), hours >= 0 ? 1 : 0);
            x.back();
        }
    }

    private static void planIsLived(ShadowTwin x) {
        int worth = x.plan(4);
        int[] ways = {x.plan(0), x.plan(1), x.plan(2), x.plan(3)};
        x.keep();
        int first = x.count(8);
        for (int way : ways) {
            x.step(way);
            x.go(1);
        }
        Check.due("the plan is worth", x.count(8) - first, worth);
        for (int i = 0; i < 5; i++) {
            x.back();
            for (int hour = 0; hour < 4; hour++) {
                x.step(upTo(4));
                x.go(1);
            }
            Check.due("no plan is worth more", x.count(8) - first <= worth, true);
        }
        x.back();
    }

    private static void waysAreNear(ShadowTwin x) {
        for (int row = 0; row < x.count(3); row++) {
            for (int column = 1; column < x.count(4); column++) {
                int one = x.way(row, column);
                int other = x.way(row, column - 1);
                if (one >= 0 && other >= 0) {
                    Check.due("ways of neighbours", Math.abs(one - other) == 1, true);
                }
            }
        }
    }

    private static void castIsWhole(ShadowTwin x) {
        int hour = x.count(6) % 24;
        int sum = 0;
        int free = 0;
        for (int row = 0; row < x.count(3); row++) {
            for (int column = 0; column < x.count(4); column++) {
                sum += x.cast(row, column, hour);
                free += 1 - x.wall(row, column);
            }
        }
        Check.due("no more than one from each cell", sum <= free, true);
        if (x.where(4) == 0 && x.clear(1, 0) == 1) {
            Check.due("where it falls now", x.cast(x.where(2), x.where(3), hour) > 0, true);
        }
    }

    private static void undoneIsAsBefore(ShadowTwin x) {
        x.go(1);
        String before = Check.all(x);
        int done = 0;
        for (int i = 0; i < 20; i++) {
            done += x.step(upTo(3)) >= 0 ? 1 : 0;
            done += done < 20 && x.light(upTo(3), DICE.nextBoolean()) ? 1 : 0;
            done += done < 20 && x.again(upTo(7)) ? 1 : 0;
            if (done >= 18) {
                break;
            }
        }
        Check.due("what can be undone", x.count(14), done);
        for (int i = done - 1; i >= 0; i--) {
            Check.due("undo", x.undo(), i);
        }
        Check.same("undone", Check.all(x), before);
    }

    private static void brokenText() {
        StringBuilder s = new StringBuilder(text());
        for (int i = upTo(3); i >= 0; i--) {
            int place = upTo(s.length());
            switch (upTo(3)) {
                case 0:
                    s.insert(place, (char) upTo(255));
                    break;
                case 1:
                    s.delete(place, place + upTo(5));
                    break;
                case 2:
                    s.insert(place, "law long (far+(1 and not 2)<3) or");
                    break;
                default:
                    s.setLength(place);
                    break;
            }
        }
        s.setLength(Math.min(700, s.length()));
        ShadowTwin x = new ShadowTwin();
        int lines = Check.tell(x, s.toString());
        Check.due("a fault or none", x.fault(0) == 0, lines >= 0);
        Check.due("its place", x.fault(1) >= 0 && x.fault(1) <= s.length(), lines < 0);
    }
}
