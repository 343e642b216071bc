/** Promises 16 to 21, 29 and 30: ahead, when, way, cast, lampsFor, plan, chance, tried. */
public final class AheadTest {
    public static void main(String[] args) {
        ahead();
        when();
        way();
        cast();
        castByLaw();
        lampsFor();
        plan();
        planAmongSteps();
        chance();
        tried();
        nothingChanges();
        Check.end();
    }

    private static final String WALK = "room 1 6;sun 0 1 1;step 0 1;step 1 1;step 1 0;step 2 1;step 30 3;step 31 3;"
        + "doing a 0 0 1 3;doing b 1 0 3 5;doing c 0 0 5 7;man m 0 2;man n 0 4;law fond trod+4;";

    private static void ahead() {
        ShadowTwin x = Check.told(WALK);
        int[][] due = {{0, 0, 0, 0, 0}, {1, 3, 0, 5, 0}, {2, 8, 1, 5, 0}, {2, 8, 1, 10, 0}, {2, 8, 1, 16, 0}};
        for (int n = 0; n < due.length; n++) {
            for (int what = 0; what < 5; what++) {
                Check.due("ahead(" + n + ", " + what + ")", x.ahead(n, what), due[n][what]);
            }
        }
        x.go(1);
        Check.due("from now on: done", x.ahead(1, 0), 1);
        Check.due("from now on: worth", x.ahead(1, 1), 5);
        Check.due("from now on: refused", x.ahead(1, 2), 1);
        x.go(1);
        Check.due("from now on: done", x.ahead(2, 0), 0);
        Check.due("from now on: refused", x.ahead(2, 2), 0);
        Check.due("from now on: fond", x.ahead(2, 3), 11);
        x.light(0, false);
        Check.due("ahead(-1, 0)", x.ahead(-1, 0), -1);
        Check.due("ahead(100, 0)", x.ahead(100, 0), -1);
        Check.due("ahead(0, 5)", x.ahead(0, 5), -1);
        Check.due("ahead(0, -1)", x.ahead(0, -1), -1);
        ShadowTwin one = Check.told("room 1 2;step 0 1;sun 0 1 1;sun 5 3 1;");
        Check.due("one as it falls, not as it is now", one.ahead(1, 4), 1);
        Check.due("one until hour 5", one.ahead(9, 4), 5);
        Check.due("as it goes there are clouds", Check.told("sun 0 1 1;cloud 50;").ahead(8, 4), 8);
        Check.due("as it goes there are none", Check.told("sun 0 1 1;cloud 49;").ahead(8, 4), 0);
    }

    private static void when() {
        ShadowTwin x = Check.told(WALK);
        Check.due("when(0)", x.when(0), 1);
        Check.due("when(1)", x.when(1), 2);
        Check.due("when(2)", x.when(2), -2);
        Check.due("when(3)", x.when(3), -1);
        Check.due("when(-1)", x.when(-1), -1);
        x.go(1);
        Check.due("it is", x.when(0), 0);
        Check.due("one hour later", x.when(1), 1);
        Check.due("99 hours", Check.told("step 98 1;doing d 0 0 1 1;").when(0), 99);
        Check.due("100 hours", Check.told("step 99 1;doing d 0 0 1 1;").when(0), -2);
    }

    private static void way() {
        ShadowTwin x = Check.told("room 3 4;her 0 0;wall 0 1;wall 1 1;wall 1 3;wall 0 2;");
        int[][] due = {{0, -2, -2, -2}, {1, -2, 4 + 1, -2}, {2, 3, 4, 5}};
        for (int row = 0; row < 3; row++) {
            for (int column = 0; column < 4; column++) {
                Check.due("way(" + row + ", " + column + ")", x.way(row, column), due[row][column]);
            }
        }
        Check.due("way(3, 0)", x.way(3, 0), -1);
        Check.due("way(0, 4)", x.way(0, 4), -1);
        Check.due("way(-1, 0)", x.way(-1, 0), -1);
        Check.due("way(0, -1)", x.way(0, -1), -1);
        x.step(2);
        Check.due("from where she is", x.way(0, 0), 1);
        Check.due("across", Check.told("room 8 8;").way(7, 7), 14);
        ShadowTwin tired = Check.told("room 1 8;law tired 9;");
        tired.step(1);
        Check.due("however tired she is", tired.way(0, 7), 6);
    }

    private static void cast() {
        ShadowTwin x = Check.told("room 2 4;wall 1 1;sun 6 1 2;sun 20 2 1;sun 22 0 0;cloud 100;");
        Check.due("from (0, 0)", x.cast(0, 2, 6), 1);
        Check.due("from (0, 1), (0, 2), not from (0, 3)", x.cast(0, 3, 6), 2);
        Check.due("a wall casts none", x.cast(1, 3, 6), 1);
        Check.due("at the sun's side", x.cast(0, 0, 6), 0);
        Check.due("on a wall", x.cast(1, 1, 20), 1);
        Check.due("not one", x.cast(1, 0, 20), 1);
        Check.due("no light", x.cast(0, 0, 22), 0);
        Check.due("round midnight", x.cast(0, 3, 5), 0);
        Check.due("cast(2, 0, 0)", x.cast(2, 0, 0), -1);
        Check.due("cast(0, 4, 0)", x.cast(0, 4, 0), -1);
        Check.due("cast(0, -1, 0)", x.cast(0, -1, 0), -1);
        Check.due("cast(0, 0, 24)", x.cast(0, 0, 24), -1);
        Check.due("cast(0, 0, -1)", x.cast(0, 0, -1), -1);
        ShadowTwin lamps = Check.told("room 1 7;lamp l 0 3 2;");
        Check.due("from (0, 2) and (0, 1)", lamps.cast(0, 0, 0), 1);
        Check.due("from (0, 2)", lamps.cast(0, 1, 0), 1);
        Check.due("from (0, 5)", lamps.cast(0, 6, 0), 1);
        lamps.light(0, false);
        Check.due("as the lamps are now", lamps.cast(0, 1, 0), 0);
    }

    private static void castByLaw() {
        ShadowTwin x = Check.told("room 1 8;sun 0 1 1;doing d 0 0 0 1;law long hour+done+weary;");
        Check.due("by the hour that is asked", x.cast(0, 3, 3), 1);
        Check.due("not by that of now", x.cast(0, 2, 3), 0);
        x.go(1);
        Check.due("all else as now: done", x.cast(0, 4, 3), 1);
        Check.due("all else as now: done", x.cast(0, 3, 3), 0);
        x.step(1);
        Check.due("all else as now: weary", x.cast(0, 5, 3), 1);
        Check.due("all else as now: weary", x.cast(0, 4, 3), 0);
    }

    private static void lampsFor() {
        ShadowTwin x = Check.told("room 1 8;her 0 3;sun 0 1 7;lamp a 0 0 9;lamp b 0 2 9;lamp c 0 5 9;lamp d 0 4 1;");
        Check.due("by a", x.lampsFor(0, 6), 1);
        Check.due("by b", x.lampsFor(0, 4), 2);
        Check.due("by c", x.lampsFor(0, 1), 4);
        Check.due("by d", x.lampsFor(0, 2), 8);
        Check.due("one", x.lampsFor(0, 3), -2);
        Check.due("by none", x.lampsFor(0, 7), -2);
        Check.due("lampsFor(1, 0)", x.lampsFor(1, 0), -1);
        Check.due("lampsFor(0, 8)", x.lampsFor(0, 8), -1);
        Check.due("lampsFor(-1, 0)", x.lampsFor(-1, 0), -1);
        Check.due("lampsFor(0, -1)", x.lampsFor(0, -1), -1);
        for (int lamp = 0; lamp < 4; lamp++) {
            x.light(lamp, false);
        }
        Check.due("of all lamps, lit or not", x.lampsFor(0, 6), 1);
        x.step(1);
        Check.due("where she is now", x.lampsFor(0, 3), 4);
        ShadowTwin lit = Check.told("room 8 8;her 0 0;lamp a 7 7 9;lamp b 0 1 9;lamp c 7 7 1;lamp d 7 7 1;law long lit;step 0 2;");
        Check.due("nothing to the left", lit.lampsFor(0, 1), -2);
        lit.step(1);
        lit.step(1);
        lit.step(1);
        Check.due("as long as lamps are lit: one", lit.lampsFor(0, 4), 2);
        Check.due("two: the least bits", lit.lampsFor(0, 5), 3);
        Check.due("three", lit.lampsFor(0, 6), 7);
        Check.due("four", lit.lampsFor(0, 7), 15);
    }

    private static void plan() {
        Check.plan("", 0, 0, 0, 0, 0);
        Check.plan("her 1 1;doing d 0 1 2 5;", 0, 0, 1, 2, 5);
        Check.plan("her 2 2;doing d 0 2 4 5;", 0, 1, 1, 2, 5);
        Check.plan("her 0 0;doing d 0 4 4 5;", 0, 0, 0, 0, 0);
        Check.plan("her 0 0;doing a 0 0 0 9;doing b 0 0 1 1;", 0, 0, 0, 1, 10);
        Check.plan("her 0 2;doing a 0 0 0 9;doing b 0 0 4 8;", 0, 0, 3, 3, 9);
        Check.plan("her 0 2;doing a 0 0 0 8;doing b 0 0 4 9;", 0, 0, 1, 1, 9);
        Check.plan("room 1 1;doing a 0 0 0 9;", 0, 0, 0, 0, 9);
        Check.plan("room 1 5;sun 0 1 2;doing a 1 0 4 9;doing b 1 0 2 3;doing c 0 0 0 1;", 0, 0, 1, 1, 13);
        ShadowTwin x = Check.told("room 1 3;her 0 2;doing d 0 0 0 5;doing e 0 0 2 3;");
        Check.due("both", x.plan(4), 8);
        Check.due("left at last", x.plan(3), 3);
        x.go(1);
        Check.due("one is done", x.plan(4), 5);
        x.step(3);
        x.go(1);
        Check.due("one step less", x.plan(2), 0);
        x.step(3);
        x.go(1);
        Check.due("no more way", x.plan(3), 0);
        Check.due("what is done is no more to be done", x.plan(4), 0);
        Check.due("plan(5)", x.plan(5), -1);
        Check.due("plan(-1)", x.plan(-1), -1);
    }

    private static void planAmongSteps() {
        // ahead of (2): she goes right by the plan and right by the step, in one hour
        Check.plan("room 1 8;step 0 1;doing d 0 0 2 9;doing e 0 0 1 1;law tired 4-hour;", 0, 0, 0, 1, 9 + 1);
        // a step that isn't refused would make her too tired for the one that is told
        Check.plan("room 2 3;step 0 1;law tired 9;doing d 0 0 1 9;doing e 0 1 1 9;", 0, 0, 0, 0, 9);
        Check.plan("room 3 3;her 1 1;step 0 1;step 1 1;step 2 1;step 3 1;law tired 9;wall 1 2;doing d 0 0 1 9;", 0, 0, 0, 0, 9);
        Check.plan("room 3 3;her 1 1;step 3 1;law tired 9;doing d 0 1 2 9;", 1, 0, 0, 0, 9);
        Check.plan("room 3 3;her 1 1;step 3 1;step 2 3;law tired 9*(weary=0);doing d 0 1 0 9;", 3, 0, 0, 0, 9);
        // four ways lead away for good: she stays
        Check.plan("room 3 3;her 1 1;sun 0 1 1;sun 1 2 0;law tired 9;doing d 1 1 2 9;", 4, 0, 0, 0, 9);
    }

    private static int often(String text, int seed, int n, int doings) {
        return Check.told(text).chance(seed, n, doings);
    }

    private static void chance() {
        String text = "room 1 4;sun 0 1 1;cloud 70;doing a 1 0 1 1;doing b 0 0 0 1;doing c 0 0 3 1;";
        for (int seed = 0; seed < 40; seed++) {
            long number = seed * 50000000L;
            int due = 0;
            for (int i = 0; i < 10; i++) {
                boolean sun = false;
                for (int hour = 0; hour < 3; hour++) {
                    number = Check.nextNumber(number);
                    sun |= number / 65536 % 100 >= 70;
                }
                due += sun ? 1 : 0;
            }
            Check.due("chance of seed " + seed, often(text, seed * 50000000, 3, 2), due);
        }
        Check.due("at least", often(text, 1, 3, 1), 10);
        Check.due("never", often(text, 1, 99, 3), 0);
        Check.due("none needed", often(text, 1, 1, 0), 10);
        Check.due("the last seed", often(text, 2147483647, 99, 2), 10);
        Check.due("seed -1", often(text, -1, 3, 1), -1);
        Check.due("n 0", often(text, 1, 0, 1), -1);
        Check.due("n 100", often(text, 1, 100, 1), -1);
        Check.due("doings -1", often(text, 1, 1, -1), -1);
        Check.due("doings 9", often(text, 1, 1, 9), -1);
        Check.due("doings 8", often(text, 1, 1, 8), 0);
        ShadowTwin x = Check.told(text);
        x.go(1);
        x.step(1);
        Check.due("what is done counts", x.chance(5, 1, 1), 10);
    }

    private static void tried() {
        ShadowTwin x = Check.told("room 1 8;her 0 2;wall 0 4;sun 0 1 2;cloud 60;lamp l 0 1 2;lamp k 0 7 9;"
            + "step 0 1;step 1 1;step 2 1;step 3 1;law tired 3;"
            + "doing a 1 0 5 1;doing b 0 0 4 2;doing c 0 0 6 4;doing d 1 0 0 8;doing e 0 0 5 16;");
        Check.due("as it goes: it falls right by l", x.tried(0, 0, 4), 1);
        Check.due("no clouds: it falls right by the sun", x.tried(1, 0, 4), 1);
        Check.due("without l: left by k", x.tried(2, 0, 4), 8);
        Check.due("without k", x.tried(2, 1, 4), 1);
        Check.due("no walls, but she gets tired", x.tried(3, 0, 4), 1 + 2 + 16);
        Check.due("never tired, but walls", x.tried(4, 0, 4), 1);
        Check.due("no sun", x.tried(5, 0, 4), 1);
        Check.due("no hours", x.tried(0, 0, 0), 0);
        Check.due("tried(6, 0, 1)", x.tried(6, 0, 1), -1);
        Check.due("tried(-1, 0, 1)", x.tried(-1, 0, 1), -1);
        Check.due("i 1 of 0", x.tried(0, 1, 1), -1);
        Check.due("i 1 of 5", x.tried(5, 1, 1), -1);
        Check.due("no such lamp", x.tried(2, 2, 1), -1);
        Check.due("no such lamp", x.tried(2, -1, 1), -1);
        Check.due("n 100", x.tried(0, 0, 100), -1);
        Check.due("n -1", x.tried(0, 0, -1), -1);
        ShadowTwin tired = Check.told("room 1 8;step 0 1;step 1 1;step 2 1;law tired 9;doing a 0 0 1 1;doing b 0 0 3 2;");
        Check.due("tired", tired.tried(0, 0, 3), 1);
        Check.due("never tired", tired.tried(4, 0, 3), 3);
        tired.step(1);
        Check.due("not now either", tired.tried(4, 0, 2), 2);
        ShadowTwin weary = Check.told("room 1 8;sun 0 1 1;step 0 1;law long weary+1;doing a 1 0 2 1;doing b 1 0 3 2;");
        Check.due("weary once", weary.tried(0, 0, 1), 2);
        Check.due("never weary", weary.tried(4, 0, 1), 1);
        weary.step(1);
        weary.step(3);
        Check.due("not even at first", weary.tried(4, 0, 1), 1);
        ShadowTwin bright = Check.told("room 1 8;her 0 4;sun 0 1 2;cloud 49;lamp l 0 5 9;doing a 1 0 6 1;doing b 1 0 3 2;");
        Check.due("by the sun", bright.tried(0, 0, 1), 1);
        Check.due("no sun: by the lamp", bright.tried(5, 0, 1), 2);
        ShadowTwin grey = Check.told("room 1 8;her 0 4;sun 0 1 2;cloud 50;lamp l 0 5 9;doing a 1 0 6 1;doing b 1 0 3 2;");
        Check.due("by the lamp", grey.tried(0, 0, 1), 2);
        Check.due("no clouds: by the sun", grey.tried(1, 0, 1), 1);
        grey.go(1);
        Check.due("more than now", grey.tried(1, 0, 1) + grey.count(8), 3);
    }

    private static void nothingChanges() {
        ShadowTwin x = Check.told(WALK);
        x.go(1);
        x.step(1);
        x.keep();
        String before = Check.all(x);
        x.ahead(50, 0);
        x.when(2);
        x.way(0, 5);
        x.cast(0, 3, 5);
        x.lampsFor(0, 3);
        x.plan(4);
        x.chance(5, 50, 2);
        x.tried(4, 0, 50);
        x.homes(0);
        Check.same("what is only asked changes nothing", Check.all(x), before);
        x.go(3);
        x.back();
        x.step(3);
        x.undo();
        Check.due("nor the image", x.count(6), 1);
    }
}
