/** Both sides of every boundary that ==== 3. and 4. of the document and promises 16 to 34 name, a test for each sentence. */
public final class EdgeAskTest {
    private static final int[] BEYOND = {-1, Integer.MIN_VALUE, Integer.MAX_VALUE};

    public static void main(String[] args) {
        aheadHours();
        aheadOnes();
        aheadOfAll();
        when();
        way();
        castOnCells();
        castHours();
        lampsForFewest();
        lampsForCells();
        planFourHours();
        planFirstByWays();
        planAheadOfSteps();
        planOfAll();
        engaged();
        askHalves();
        askFond();
        rests();
        restNumbers();
        clearFractions();
        clearOfAll();
        seenAtMost();
        seenHours();
        seeOfAll();
        outOfAll();
        struckFromTheLast();
        knownByFirst();
        knownNumbers();
        homesNoWall();
        homesOfAll();
        chanceNumbers();
        chanceOfAll();
        triedOtherwise();
        triedLamps();
        triedOfAll();
        undoAtMost();
        undoByHours();
        undoLatestFirst();
        keepOne();
        imageButSeen();
        backOfAll();
        countOfAll();
        calls();
        Check.end();
    }

    private static void aheadHours() {
        Check.about("AHEAD (n 0 .. 99), what 0 DONE, 1 WORTH, 2 REFUSED, 3 FOND, 4 HOURS in which they are ONE. NONE: no such ones.");
        ShadowTwin x = Check.told("room 1 4;sun 0 1 1;step 0 0;step 98 0;step 98 1;doing a 0 0 0 3;doing b 0 0 1 5;man m 0 1;man n 0 1;");
        int[] hours = {0, 1, 98, 99};
        int[][] due = {{0, 0, 0, 0, 0}, {1, 3, 1, 2, 0}, {1, 3, 1, 196, 0}, {2, 8, 2, 196, 0}};
        for (int i = 0; i < hours.length; i++) {
            for (int what = 0; what < 5; what++) {
                Check.due("ahead(" + hours[i] + ", " + what + ")", x.ahead(hours[i], what), due[i][what]);
            }
            Check.due("what 5", x.ahead(hours[i], 5), -1);
            for (int beyond : BEYOND) {
                Check.due("what " + beyond, x.ahead(hours[i], beyond), -1);
            }
        }
        for (int what = 0; what < 5; what++) {
            Check.due("n 100", x.ahead(100, what), -1);
            for (int beyond : BEYOND) {
                Check.due("n " + beyond, x.ahead(beyond, what), -1);
            }
        }
    }

    private static void aheadOnes() {
        Check.about("how many of them they are ONE in (as (3) finds it)");
        ShadowTwin x = Check.told("room 1 2;sun 0 1 1;step 2 1;");
        for (int n = 0; n <= 5; n++) {
            Check.due("ahead(" + n + ", 4)", x.ahead(n, 4), Math.max(0, n - 2));
        }
        x.go(2);
        Check.due("now they aren't", x.where(4), 0);
        Check.due("in this hour they are", x.ahead(1, 4), 1);
        x.go(1);
        Check.due("so far", x.count(10), 1);
        Check.due("more than so far", x.ahead(5, 4), 5);
    }

    private static void aheadOfAll() {
        Check.about("AHEAD for n HOURS as it goes: DONE more, their WORTH, REFUSED more, FOND of all MEN more,");
        ShadowTwin x = Check.told("room 1 3;sun 0 1 1;step 0 0;step 1 0;doing a 0 0 0 3;doing b 1 0 1 5;man m 0 1;man n 0 2;law fond 99;");
        x.go(1);
        int[] due = {0, 0, 1, 99, 0};
        for (int what = 0; what < 5; what++) {
            Check.due("more: " + what, x.ahead(1, what), due[what]);
        }
        x.again(1);
        Check.due("done once more", x.ahead(1, 0), 1);
        Check.due("its worth", x.ahead(1, 1), 5);
        x.go(9);
        Check.due("fond", x.man(0, 4), 990);
        Check.due("9 are left up to 999", x.ahead(1, 3), 9);
        Check.due("and no more", x.ahead(99, 3), 9);
    }

    private static void when() {
        Check.about("WHEN of a DOING: in how many HOURS as it goes, 99 at most, it is DONE (0: it is).");
        Check.due("in this hour", Check.told("step 0 1;doing d 0 0 1 1;").when(0), 1);
        int[] hours = {1, 50, 97, 98, 99};
        int[] due = {2, 51, 98, 99, -2};
        for (int i = 0; i < hours.length; i++) {
            ShadowTwin x = Check.told("step " + hours[i] + " 1;doing d 0 0 1 1;doing e 0 0 0 1;doing f 0 4 4 1;");
            Check.due("step of " + hours[i], x.when(0), due[i]);
            Check.due("at once", x.when(1), 1);
            Check.due("never", x.when(2), -2);
            x.go(1);
            Check.due("an hour later", x.when(0), hours[i] == 99 ? 99 : due[i] - 1);
            Check.due("it is", x.when(1), 0);
            x.again(1);
            Check.due("it isn't any more", x.when(1), hours[i] == 1 ? -2 : 1);
        }
        Check.about("WHEN; -2: not by then; NONE: no such DOING.");
        ShadowTwin x = Check.told("doing d 0 0 1 1;doing e 0 0 0 1;");
        Check.due("when(1)", x.when(1), 1);
        Check.due("when(2)", x.when(2), -1);
        for (int beyond : BEYOND) {
            Check.due("when(" + beyond + ")", x.when(beyond), -1);
        }
        Check.due("when(0) of none", new ShadowTwin().when(0), -1);
    }

    private static void way() {
        Check.about("WAY (0: she is there); -2: there is none; NONE: no such cell.");
        ShadowTwin x = Check.told("room 3 4;her 0 0;wall 0 1;wall 1 1;wall 1 2;wall 1 3;");
        int[][] due = {{0, -2, -2, -2}, {1, -2, -2, -2}, {2, 3, 4, 5}};
        cells(x, due);
        x.step(2);
        Check.due("she is there", x.way(1, 0), 0);
        Check.due("she was there", x.way(0, 0), 1);
        ShadowTwin shut = Check.told("room 2 2;wall 0 1;wall 1 0;");
        cells(shut, new int[][] {{0, -2}, {-2, -2}});
        cells(Check.told("room 1 1;"), new int[][] {{0}});
        ShadowTwin round = Check.told("room 8 2;wall 0 1;wall 1 1;wall 2 1;wall 3 1;wall 4 1;wall 5 1;");
        Check.due("down", round.way(7, 0), 7);
        Check.due("round the corner", round.way(6, 1), 7);
        ShadowTwin detour = Check.told("room 8 3;her 0 0;wall 0 1;wall 1 1;wall 2 1;wall 3 1;wall 4 1;wall 5 1;wall 6 1;");
        Check.due("all the way round", detour.way(0, 2), 16);
        Check.due("from corner to corner", Check.told("room 8 8;").way(7, 7), 14);
    }

    private static void cells(ShadowTwin x, int[][] due) {
        for (int row = -1; row <= due.length; row++) {
            for (int column = -1; column <= due[0].length; column++) {
                boolean is = row >= 0 && row < due.length && column >= 0 && column < due[0].length;
                Check.due("way(" + row + ", " + column + ")", x.way(row, column), is ? due[row][column] : -1);
            }
        }
        for (int beyond : BEYOND) {
            Check.due("row " + beyond, x.way(beyond, 0), -1);
            Check.due("column " + beyond, x.way(0, beyond), -1);
        }
    }

    private static void castOnCells() {
        Check.about("from how many cells that are no wall it falls there (not ONE).");
        for (int length = 1; length <= 7; length++) {
            ShadowTwin x = Check.told("room 1 8;sun 0 1 " + length + ";cloud 100;");
            for (int column = 0; column < 8; column++) {
                int due = column == 7 ? length : column >= length ? 1 : 0;
                Check.due("length " + length + ", on " + column, x.cast(0, column, 0), due);
            }
        }
        ShadowTwin walls = Check.told("room 1 8;wall 0 1;wall 0 2;wall 0 7;sun 0 1 7;");
        Check.due("on a wall, but from none", walls.cast(0, 7, 0), 5);
        ShadowTwin dark = Check.told("room 1 8;");
        Check.due("not one", dark.cast(0, 0, 0), 0);
        Check.about("CAST; NONE: no such ones.");
        int[] hours = {0, 23};
        for (int hour : hours) {
            Check.due("the last cell", walls.cast(0, 7, hour), 5);
            Check.due("row 1", walls.cast(1, 0, hour), -1);
            Check.due("column 8", walls.cast(0, 8, hour), -1);
            for (int beyond : BEYOND) {
                Check.due("row " + beyond, walls.cast(beyond, 0, hour), -1);
                Check.due("column " + beyond, walls.cast(0, beyond, hour), -1);
            }
        }
        Check.due("hour 24", walls.cast(0, 7, 24), -1);
        for (int beyond : BEYOND) {
            Check.due("hour " + beyond, walls.cast(0, 7, beyond), -1);
        }
    }

    private static void castHours() {
        Check.about("CAST on a cell at an HOUR of the day 0 .. 23, without clouds, all else as now:");
        ShadowTwin x = Check.told("room 1 4;sun 6 1 3;sun 18 3 3;sun 20 3 0;lamp l 0 1 1;cloud 100;");
        for (int turn = 0; turn < 2; turn++) {
            for (int hour = 0; hour < 24; hour++) {
                boolean isRight = hour >= 6 && hour < 18;
                boolean isLeft = hour >= 18 && hour < 20;
                Check.due("on the last at " + hour, x.cast(0, 3, hour), isRight ? 3 : isLeft ? 0 : turn == 0 ? 1 : 0);
                Check.due("on the first at " + hour, x.cast(0, 0, hour), isLeft ? 3 : 0);
            }
            // from (0, 2) it falls by the lamp; from (0, 0) the border keeps it
            x.light(0, false);
            x.go(7);
        }
        ShadowTwin law = Check.told("room 1 8;sun 0 1 1;law long hour-20;");
        law.go(2);
        Check.due("by the hour that is asked", law.cast(0, 3, 23), 1);
        Check.due("by 0 cells they are one", law.cast(0, 3, 20), 0);
        Check.due("hours stay as they are", law.count(6), 2);
    }

    private static void lampsForFewest() {
        Check.about("the fewest of all LAMPS (bits, of several the least) that must be LIT so that in the dark (no SUN),"
            + " where she is now, it falls there (not ONE).");
        String lamps = "room 1 8;her 0 3;sun 0 3 7;lamp a 0 2 9;lamp b 0 2 9;lamp c 0 0 9;";
        ShadowTwin x = Check.told(lamps + "law long 1+(lit=2)+(far=3);");
        int[] due = {-2, -2, -2, -2, 1, 4, -2, -2};
        for (int column = 0; column < 8; column++) {
            Check.due("lampsFor(0, " + column + ")", x.lampsFor(0, column), due[column]);
        }
        Check.due("of two the least", Check.told(lamps + "law long lit;").lampsFor(0, 5), 3);
        Check.due("all three", Check.told(lamps + "law long lit;").lampsFor(0, 6), 7);
        Check.due("no more than there are", Check.told(lamps + "law long lit;").lampsFor(0, 7), -2);
        Check.due("four", Check.told(lamps + "lamp d 0 2 9;law long lit;").lampsFor(0, 7), 15);
        Check.due("the last one alone", Check.told(lamps + "lamp d 0 4 1;").lampsFor(0, 2), 8);
        x.step(1);
        Check.due("where she is now", x.lampsFor(0, 5), 1);
    }

    private static void lampsForCells() {
        Check.about("LAMPS FOR a cell (bits); -2: by none; NONE: no such cell.");
        ShadowTwin x = Check.told("room 2 4;her 1 1;wall 1 3;lamp a 1 0 1;law long 2;");
        Check.due("on a wall", x.lampsFor(1, 3), 1);
        Check.due("not on her cell", x.lampsFor(1, 1), -2);
        Check.due("on the lamp's", x.lampsFor(1, 0), -2);
        Check.due("row 2", x.lampsFor(2, 0), -1);
        Check.due("column 4", x.lampsFor(0, 4), -1);
        for (int beyond : BEYOND) {
            Check.due("row " + beyond, x.lampsFor(beyond, 0), -1);
            Check.due("column " + beyond, x.lampsFor(0, beyond), -1);
        }
        x.light(0, false);
        Check.due("lit or not", x.lampsFor(1, 3), 1);
        x.step(0);
        Check.due("too far now", x.lampsFor(0, 3), -2);
        Check.due("without lamps", new ShadowTwin().lampsFor(0, 0), -2);
    }

    private static void planFourHours() {
        Check.about("PLAN: for each of the next four HOURS a WAY 0 .. 3 or 4 (she stays):");
        Check.plan("room 1 8;doing d 0 0 3 9;", 0, 1, 1, 1, 9);
        Check.plan("room 1 8;doing d 0 0 4 9;", 1, 1, 1, 1, 9);
        Check.plan("room 1 8;doing d 0 0 5 9;", 0, 0, 0, 0, 0);
        Check.plan("room 1 8;sun 0 1 2;doing d 1 0 6 9;", 1, 1, 1, 1, 9);
        Check.plan("room 1 8;her 0 4;sun 0 1 2;doing d 1 0 7 9;", 0, 0, 0, 1, 9);
        Check.plan("her 4 4;doing a 0 4 2 1;doing b 0 2 4 1;", 0, 0, 0, 0, 1);
        Check.plan("her 4 4;doing a 0 4 2 2;doing b 0 2 4 1;", 0, 2, 3, 3, 2);
        // only who stays stays: each way leads off the one cell that it falls from
        Check.plan("room 3 3;her 1 1;sun 0 1 1;sun 1 0 0;doing d 1 1 2 7;law tired 9;", 4, 0, 0, 0, 7);
        Check.plan("room 3 3;her 1 1;sun 0 0 0;sun 3 1 1;sun 4 0 0;doing d 1 1 2 7;law tired 9;", 4, 4, 4, 4, 7);
    }

    private static void planFirstByWays() {
        Check.about("by which WORTH of what is DONE in these four HOURS as it goes is most, of several the first by WAYS.");
        Check.plan("her 2 2;", 0, 0, 0, 0, 0);
        Check.plan("her 2 2;doing d 0 2 2 5;doing e 0 2 3 5;doing f 0 2 1 5;", 1, 3, 3, 0, 15);
        Check.plan("her 2 2;doing d 0 0 2 5;doing e 0 4 2 5;", 0, 0, 0, 0, 5);
        Check.plan("her 2 2;doing d 0 0 2 5;doing e 0 4 2 6;", 0, 2, 2, 2, 6);
        Check.plan("her 2 2;doing d 0 2 0 5;doing e 0 2 4 5;", 0, 1, 1, 2, 5);
        Check.plan("room 1 3;her 0 1;sun 0 1 1;cloud 49;doing d 1 0 2 5;doing e 1 0 1 5;", 0, 0, 0, 3, 10);
        Check.plan("room 1 3;her 0 1;sun 0 1 1;cloud 50;doing d 1 0 2 5;doing e 1 0 1 5;", 0, 0, 0, 0, 0);
        ShadowTwin x = Check.told("room 1 3;doing a 0 0 0 9;doing b 0 0 1 2;");
        x.go(1);
        Check.due("what is done is done", x.plan(4), 2);
        x.again(0);
        Check.due("what isn't any more is to be done", x.plan(4), 11);
    }

    private static void planAheadOfSteps() {
        Check.about("steps like those told, ahead of (2) of it (REFUSED ones, too)");
        Check.plan("room 1 8;step 3 1;doing d 0 0 5 9;", 1, 1, 1, 1, 9);
        Check.plan("room 1 8;step 4 1;doing d 0 0 5 9;", 0, 0, 0, 0, 0);
        // she is too tired for the step told, if hers isn't refused: up out of the room is
        Check.plan("room 2 3;her 0 0;step 0 1;law tired 9;doing d 0 0 1 9;", 0, 0, 0, 0, 9);
        Check.plan("room 2 3;her 0 1;step 0 1;law tired 9;doing d 0 1 1 9;", 2, 0, 0, 0, 9);
        Check.plan("room 3 4;her 1 0;step 0 1;law tired 9;doing d 0 1 1 9;", 1, 0, 0, 0, 9);
        ShadowTwin tired = Check.told("room 1 8;law tired 9;doing d 0 0 2 9;doing e 0 0 1 1;");
        Check.due("one step, then she is tired", tired.plan(4), 1);
        tired.go(21);
        Check.due("until the end of hour 23", tired.plan(4), 10);
        Check.due("the second step in hour 24", tired.plan(3), 1);
        ShadowTwin later = Check.told("room 1 8;law tired 9;doing d 0 0 2 9;doing e 0 0 1 1;");
        later.go(20);
        Check.due("not yet", later.plan(4), 1);
    }

    private static void planOfAll() {
        Check.about("PLAN, what 0 .. 3: the WAY of this HOUR, and so on (4: she stays), 4: WORTH. NONE for another what.");
        ShadowTwin x = Check.told("room 1 3;her 0 2;doing d 0 0 0 99;");
        int[] due = {0, 0, 3, 3, 99};
        String before = Check.all(x);
        for (int what = 0; what < 5; what++) {
            Check.due("plan(" + what + ")", x.plan(what), due[what]);
        }
        Check.due("plan(5)", x.plan(5), -1);
        for (int beyond : BEYOND) {
            Check.due("plan(" + beyond + ")", x.plan(beyond), -1);
        }
        Check.same("nothing is changed", Check.all(x), before);
    }

    /** Two men: MET and TROD so often, because she stands in their cells or left of them; FOND only by the first time. */
    private static ShadowTwin men(int met, int trod, int otherMet, int otherTrod, int fond) {
        ShadowTwin x = Check.told("room 2 2;sun 0 1 1;man a 0 1;man b 1 1;law tired 0;law fond " + fond + "*(trod=1);");
        int[] hours = {trod, met, otherMet, otherTrod};
        int[] ways = {1, 2, 3, 0};
        for (int i = 0; i < 4; i++) {
            x.go(hours[i]);
            x.step(ways[i]);
        }
        return x;
    }

    private static void engaged() {
        Check.about("ENGAGED: a MAN is to her (0), if he MET her oftener than TROD, to it (1) the other way round, else to none.");
        for (int met = 0; met <= 3; met++) {
            for (int trod = 0; trod <= 3; trod++) {
                ShadowTwin x = men(met, trod, 0, 0, 9);
                Check.due("met", x.man(0, 2), met);
                Check.due("trod", x.man(0, 3), trod);
                Check.due(met + " and " + trod, x.man(0, 5), met > trod ? 0 : met < trod ? 1 : -2);
            }
        }
    }

    private static void rests(ShadowTwin x, String what, int... due) {
        Check.due(what + ": rests", x.rests(0, 1), due.length);
        for (int k = 0; k < due.length; k++) {
            Check.due(what + ": rest " + k, x.rest(0, 1, k), due[k]);
        }
        Check.due(what + ": no more", x.rest(0, 1, due.length), -2);
    }

    private static void askHalves() {
        Check.about("who asks one alone has MET (her) or TROD (it); both who ask the same one have half of their own of that, cut,");
        // both ask her: half of MET against TROD alone
        rests(men(4, 1, 4, 1, 0), "2 against 1", 0);
        rests(men(4, 2, 4, 2, 0), "2 against 2", 0, 1, 10);
        rests(men(4, 3, 4, 3, 0), "2 against 3", 1, 10);
        rests(men(5, 2, 5, 2, 0), "5 is cut to 2", 0, 1, 10);
        rests(men(5, 3, 5, 3, 0), "2 against 3, cut", 1, 10);
        rests(men(1, 4, 1, 4, 0), "both ask it", 11);
        rests(men(2, 5, 2, 5, 0), "cut, both ask it", 1, 10, 11);
        rests(men(1, 0, 1, 0, 0), "half of 1 is 0", 0, 1, 10);
        rests(men(0, 0, 0, 0, 0), "nothing", 0, 1, 10, 11);
    }

    private static void askFond() {
        Check.about("and who is more FOND has 1 more.");
        ShadowTwin as = men(4, 2, 4, 2, 1);
        Check.due("as fond", as.man(0, 4) - as.man(1, 4), 0);
        rests(as, "as fond: neither", 0, 1, 10);
        ShadowTwin more = men(4, 3, 4, 0, 1);
        Check.due("more fond", more.man(0, 4) - more.man(1, 4), 1);
        // 2 and 1 are 3, as much as he had alone from it
        rests(more, "more fond: 3 against 3", 0, 10);
        rests(men(4, 4, 4, 0, 1), "more fond: 3 against 4", 10);
        ShadowTwin other = men(4, 0, 4, 3, 1);
        Check.due("less fond", other.man(0, 4) - other.man(1, 4), -1);
        rests(other, "the other one", 0, 1);
        rests(men(4, 0, 4, 4, 1), "the other one: 3 against 4", 1);
    }

    private static void rests() {
        Check.about("How many RESTS ASK has; NONE: no such MEN, alike.");
        ShadowTwin x = Check.told("man a 0 0;man b 0 0;man c 0 1;man d 0 2;");
        for (int one = -1; one <= 4; one++) {
            for (int other = -1; other <= 4; other++) {
                boolean are = one >= 0 && one < 4 && other >= 0 && other < 4 && one != other;
                Check.due("rests(" + one + ", " + other + ")", x.rests(one, other), are ? 4 : -1);
            }
        }
        for (int beyond : BEYOND) {
            Check.due("rests(" + beyond + ", 0)", x.rests(beyond, 0), -1);
            Check.due("rests(0, " + beyond + ")", x.rests(0, beyond), -1);
        }
        Check.due("one man", Check.told("man a 0 0;").rests(0, 1), -1);
    }

    private static void restNumbers() {
        Check.about("The k-th: ten times the first one's and the second one's; -2: there are no so many; NONE likewise, k is below 0.");
        ShadowTwin x = Check.told("man a 4 4;man b 4 4;");
        int[] due = {0, 1, 10, 11, -2, -2};
        for (int k = 0; k < due.length; k++) {
            Check.due("rest(0, 1, " + k + ")", x.rest(0, 1, k), due[k]);
            Check.due("rest(0, 2, " + k + ")", x.rest(0, 2, k), -1);
            Check.due("rest(2, 1, " + k + ")", x.rest(2, 1, k), -1);
            Check.due("rest(-1, 1, " + k + ")", x.rest(-1, 1, k), -1);
            Check.due("rest(0, -1, " + k + ")", x.rest(0, -1, k), -1);
            Check.due("rest(1, 1, " + k + ")", x.rest(1, 1, k), -1);
        }
        Check.due("k most", x.rest(0, 1, Integer.MAX_VALUE), -2);
        Check.due("k -1", x.rest(0, 1, -1), -1);
        Check.due("k least", x.rest(0, 1, Integer.MIN_VALUE), -1);
        ShadowTwin order = men(9, 0, 0, 9, 0);
        Check.due("the first one asks her, the second one it", order.rest(0, 1, 0), 1);
        Check.due("the other way round", order.rest(1, 0, 0), 10);
    }

    private static void clearFractions() {
        Check.about("CLEAR for n HOURS: how likely there are clouds in none, as a fraction.");
        for (int cloud = 0; cloud <= 100; cloud++) {
            ShadowTwin x = Check.told("sun 0 1 1;cloud " + cloud + ";");
            long above = 1;
            long below = 1;
            for (int n = 0; n <= 6; n++) {
                long divisor = divisor(above, below);
                Check.due("cloud " + cloud + ": clear(" + n + ", 0)", x.clear(n, 0), above / divisor);
                Check.due("cloud " + cloud + ": clear(" + n + ", 1)", x.clear(n, 1), below / divisor);
                above *= 100 - cloud;
                below *= 100;
            }
        }
    }

    private static long divisor(long a, long b) {
        return b == 0 ? a : divisor(b, a % b);
    }

    private static void clearOfAll() {
        Check.about("CLEAR (n 0 .. 6) in least terms, what 0: the number above, 1: the one below. NONE: no such ones.");
        ShadowTwin x = Check.told("sun 0 1 1;cloud 1;");
        Check.due("clear(0, 0)", x.clear(0, 0), 1);
        Check.due("clear(0, 1)", x.clear(0, 1), 1);
        Check.due("clear(6, 0)", x.clear(6, 0), 941480149401L);
        Check.due("clear(6, 1)", x.clear(6, 1), 1000000000000L);
        for (int what = 0; what < 2; what++) {
            Check.due("n 7", x.clear(7, what), -1);
            for (int beyond : BEYOND) {
                Check.due("n " + beyond, x.clear(beyond, what), -1);
            }
        }
        for (int n = 0; n <= 6; n++) {
            Check.due("what 2", x.clear(n, 2), -1);
            for (int beyond : BEYOND) {
                Check.due("what " + beyond, x.clear(n, beyond), -1);
            }
        }
    }

    private static void seenAtMost() {
        Check.about("SEEN, at most 24, numbered from 0 on:");
        ShadowTwin x = Check.told("room 1 2;");
        for (int i = 0; i < 24; i++) {
            Check.due("number " + i, i % 3 == 2 ? x.out(i - 1) : x.see(1, 0, 0, 0, true), i);
        }
        Check.due("24 are seen", x.count(12), 24);
        String before = Check.all(x);
        Check.due("a 25th", x.see(1, 0, 0, 0, true), -1);
        Check.due("a 25th that strikes", x.out(0), -1);
        Check.same("nothing is changed", Check.all(x), before);
        x.text(0);
        Check.due("from 0 on", x.see(1, 0, 0, 0, true), 0);
    }

    private static void seenHours() {
        Check.about("behind so many HOURS 1 .. 40 (as it goes from the TEXT on, nothing done by call) she (0) or it (1) was in a cell, or wasn't"
            + " (ONE: it is where she is).");
        String text = "room 1 4;step 0 1;step 39 1;step 40 1;law tired 0;";
        homes(text, 1, 0, 1, true, 1, 0);
        homes(text, 1, 0, 0, true, 0, -2);
        homes(text, 39, 0, 1, true, 1, 0);
        homes(text, 39, 0, 2, true, 1, 1);
        homes(text, 40, 0, 2, true, 1, 0);
        homes(text, 40, 0, 3, true, 3, 1);
        homes(text, 40, 0, 3, false, 1, 0);
        // one: it is where she is
        homes(text, 40, 1, 2, true, 1, 0);
        homes(text, 40, 1, 2, false, 3, 1);
        String lit = "room 1 4;sun 0 1 1;sun 1 3 1;";
        homes(lit, 1, 1, 1, true, 1, 0);
        homes(lit, 1, 1, 3, true, 2, 2);
        homes(lit, 1, 1, 0, true, 0, -2);
        homes(lit, 2, 1, 0, true, 2, 0);
        homes(lit, 2, 1, 3, true, 0, -2);
        ShadowTwin x = Check.told("room 1 4;lamp l 0 3 9;step 0 1;law tired 5;");
        x.see(1, 1, 0, 0, true);
        Check.due("two cells from the lamp", x.homes(0), 1);
        x.light(0, false);
        x.step(1);
        x.step(1);
        x.go(7);
        Check.due("nothing done by call", x.homes(0), 1);
        Check.due("nor since", x.homes(1), 0);
    }

    private static void homes(String text, int hours, int who, int column, boolean is, int many, int first) {
        ShadowTwin x = Check.told(text);
        String what = text + " behind " + hours + ": " + (who == 0 ? "she" : "it") + (is ? " is at " : " isn't at ") + column;
        x.see(hours, who, 0, column, is);
        Check.due(what, x.homes(0), many);
        Check.due(what + ", the first", x.homes(1), first);
    }

    private static void seeOfAll() {
        Check.about("SEEN (who 0 she, 1 it): its number; NONE: no such ones, or there are 24.");
        ShadowTwin x = Check.told("room 2 3;wall 1 1;");
        Check.due("hours 1", x.see(1, 0, 0, 0, false), 0);
        Check.due("hours 40", x.see(40, 1, 1, 2, false), 1);
        Check.due("a wall", x.see(1, 1, 1, 1, false), 2);
        Check.due("hours 0", x.see(0, 0, 0, 0, true), -1);
        Check.due("hours 41", x.see(41, 0, 0, 0, true), -1);
        Check.due("who 2", x.see(1, 2, 0, 0, true), -1);
        Check.due("row 2", x.see(1, 0, 2, 0, true), -1);
        Check.due("column 3", x.see(1, 0, 0, 3, true), -1);
        for (int beyond : BEYOND) {
            Check.due("hours " + beyond, x.see(beyond, 0, 0, 0, true), -1);
            Check.due("who " + beyond, x.see(1, beyond, 0, 0, true), -1);
            Check.due("row " + beyond, x.see(1, 0, beyond, 0, true), -1);
            Check.due("column " + beyond, x.see(1, 0, 0, beyond, true), -1);
        }
        Check.due("none of these is seen", x.count(12), 3);
    }

    private static void outOfAll() {
        Check.about("One that strikes one SEEN: its number; NONE: no such one, or there are 24.");
        ShadowTwin x = Check.told("room 1 2;");
        Check.due("of none", x.out(0), -1);
        x.see(1, 0, 0, 1, true);
        Check.due("not itself", x.out(1), -1);
        for (int beyond : BEYOND) {
            Check.due("out(" + beyond + ")", x.out(beyond), -1);
        }
        Check.due("none of these is seen", x.count(12), 1);
        Check.due("the first", x.out(0), 1);
        Check.due("the last", x.out(1), 2);
        Check.due("once more", x.out(0), 3);
        Check.due("not itself", x.out(4), -1);
        Check.due("all are seen", x.count(12), 4);
    }

    private static void struckFromTheLast() {
        Check.about("(what strikes may be STRUCK: then it doesn't count; asked from the last one on)");
        ShadowTwin x = Check.told("room 1 2;");
        x.see(1, 0, 0, 1, true);
        Check.due("seen", x.homes(1), 1);
        for (int i = 0; i < 22; i++) {
            x.out(i);
            Check.due("by a chain of " + (i + 1), x.homes(1), i % 2 == 0 ? 0 : 1);
        }
        Check.due("23 are seen", x.count(12), 23);
        x.out(0);
        Check.due("by another one", x.homes(1), 0);
        ShadowTwin two = Check.told("room 1 2;");
        two.see(1, 0, 0, 1, true);
        two.see(1, 0, 0, 0, false);
        two.out(0);
        Check.due("the other one is known", two.homes(1), 1);
        two.out(1);
        Check.due("neither is", two.homes(1), 0);
    }

    private static void knownByFirst() {
        Check.about("KNOWN by n (all at first): the first n that aren't STRUCK by one of these");
        ShadowTwin x = Check.told("room 1 4;");
        x.see(1, 0, 0, 0, false);
        x.see(1, 0, 0, 1, false);
        x.out(0);
        x.see(1, 0, 0, 2, false);
        x.out(2);
        int[] due = {4, 3, 2, 3, 2, 1};
        int[] first = {0, 1, 2, 0, 0, 3};
        Check.due("all at first", x.homes(0), 1);
        for (int n = 0; n <= 5; n++) {
            Check.due("known(" + n + ")", x.known(n), true);
            Check.due("homes by " + n, x.homes(0), due[n]);
            Check.due("the first one by " + n, x.homes(1), first[n]);
            Check.due("by how many", x.count(13), n);
        }
    }

    private static void knownNumbers() {
        Check.about("KNOWN by n from now on (-1: by all, also those to come): true; false: no such n.");
        ShadowTwin x = Check.told("room 1 4;");
        Check.due("known(0)", x.known(0), true);
        Check.due("known(1) of none", x.known(1), false);
        x.see(1, 0, 0, 0, false);
        x.see(1, 0, 0, 1, false);
        Check.due("by none still", x.homes(0), 4);
        Check.due("by 0", x.count(13), 0);
        Check.due("known(2)", x.known(2), true);
        Check.due("known(3)", x.known(3), false);
        Check.due("known(-2)", x.known(-2), false);
        Check.due("known(least)", x.known(Integer.MIN_VALUE), false);
        Check.due("known(most)", x.known(Integer.MAX_VALUE), false);
        Check.due("by 2 still", x.count(13), 2);
        x.see(1, 0, 0, 2, false);
        Check.due("not by those to come", x.homes(0), 2);
        Check.due("by 2", x.count(13), 2);
        Check.due("known(-1)", x.known(-1), true);
        Check.due("by all", x.homes(0), 1);
        x.see(1, 0, 0, 3, false);
        Check.due("also those to come", x.homes(0), 0);
        Check.due("by 4", x.count(13), 4);
    }

    private static void homesNoWall() {
        Check.about("HOMES: cells that are no wall in which she may have been at first, in place of what was told,"
            + " by which all KNOWN ones are so.");
        ShadowTwin x = Check.told("room 2 3;her 1 2;wall 0 0;wall 0 1;");
        Check.due("no wall", x.homes(0), 4);
        Check.due("the first", x.homes(1), 2);
        x.see(1, 0, 0, 0, true);
        Check.due("never in a wall", x.homes(0), 0);
        ShadowTwin told = Check.told("room 2 3;her 1 2;");
        told.see(1, 0, 1, 2, false);
        Check.due("in place of what was told", told.homes(0), 5);
        told.see(2, 0, 0, 2, true);
        Check.due("by all of them", told.homes(0), 1);
        told.see(2, 0, 0, 2, false);
        Check.due("they can't all be so", told.homes(0), 0);
    }

    private static void homesOfAll() {
        Check.about("HOMES, what 0: how many, 1: ten times ROW and COLUMN of the first one by ROWS, then COLUMNS (-2: none). NONE for another what.");
        for (int row = 0; row < 8; row++) {
            for (int column = 0; column < 8; column++) {
                ShadowTwin x = Check.told("room 8 8;");
                x.see(1, 0, row, column, true);
                Check.due("one", x.homes(0), 1);
                Check.due("this one", x.homes(1), 10 * row + column);
                x.see(1, 0, row, column, false);
                Check.due("none", x.homes(0), 0);
                Check.due("no first one", x.homes(1), -2);
            }
        }
        ShadowTwin order = Check.told("room 2 2;her 1 1;wall 0 1;");
        order.see(1, 0, 0, 0, false);
        Check.due("by rows, then columns", order.homes(1), 10);
        Check.due("homes(2)", order.homes(2), -1);
        for (int beyond : BEYOND) {
            Check.due("homes(" + beyond + ")", order.homes(beyond), -1);
        }
    }

    private static void chanceNumbers() {
        Check.about("In how many of ten times drawn (numbers from a seed 0 .. 2147483647 on, one behind another; n 1 .. 99 HOURS from now)"
            + " so many DOINGS 0 .. 8 at least are DONE then; NONE: no such ones.");
        int[] seeds = {0, 1, 2, 77, 99999, 100000, 65535, 65536, 2147483646, 2147483647};
        for (int seed : seeds) {
            long first = Check.nextNumber(seed) / 65536 % 100;
            for (long cloud = Math.max(1, first); cloud <= Math.min(99, first + 1); cloud++) {
                ShadowTwin x = Check.told("room 1 2;sun 0 1 1;doing d 1 0 1 1;cloud " + cloud + ";seed 5;");
                for (int n = 1; n <= 3; n++) {
                    long number = seed;
                    int due = 0;
                    for (int i = 0; i < 10; i++) {
                        boolean isDone = false;
                        for (int hour = 0; hour < n; hour++) {
                            number = Check.nextNumber(number);
                            isDone |= number / 65536 % 100 >= cloud;
                        }
                        due += isDone ? 1 : 0;
                    }
                    Check.due("chance(" + seed + ", " + n + ", 1) of " + cloud, x.chance(seed, n, 1), due);
                }
            }
        }
        ShadowTwin now = Check.told("room 1 2;sun 0 1 1;cloud 50;seed 5;");
        now.chance(9, 99, 0);
        now.go(50);
        ShadowTwin other = Check.told("room 1 2;sun 0 1 1;cloud 50;seed 5;");
        other.go(50);
        Check.due("the numbers of hours that go by are others", now.count(10), other.count(10));
    }

    private static void chanceOfAll() {
        Check.about("so many DOINGS 0 .. 8 at least are DONE then; NONE: no such ones.");
        ShadowTwin x = Check.told("room 1 3;sun 0 1 1;doing a 0 0 0 1;doing b 0 0 0 1;doing c 1 0 1 1;doing d 0 0 0 1;doing e 0 0 0 1;"
            + "doing f 0 0 0 1;doing g 0 0 0 1;doing h 0 0 1 1;step 1 1;");
        for (int doings = 0; doings <= 8; doings++) {
            Check.due(doings + " in one hour", x.chance(1, 1, doings), doings <= 7 ? 10 : 0);
            Check.due(doings + " in two hours", x.chance(1, 2, doings), 10);
        }
        Check.due("n 99", x.chance(1, 99, 8), 10);
        Check.due("seed 0", x.chance(0, 1, 0), 10);
        Check.due("the last seed", x.chance(2147483647, 1, 0), 10);
        Check.due("seed -1", x.chance(-1, 1, 0), -1);
        Check.due("the least seed", x.chance(Integer.MIN_VALUE, 1, 0), -1);
        Check.due("n 0", x.chance(0, 0, 0), -1);
        Check.due("n 100", x.chance(0, 100, 0), -1);
        Check.due("doings 9", x.chance(0, 1, 9), -1);
        for (int beyond : BEYOND) {
            Check.due("n " + beyond, x.chance(0, beyond, 0), -1);
            Check.due("doings " + beyond, x.chance(0, 1, beyond), -1);
        }
        x.go(1);
        Check.due("from now", x.chance(1, 1, 8), 10);
        x.again(0);
        Check.due("what is done now counts", x.chance(1, 1, 7), 10);
        Check.due("what isn't any more doesn't", x.chance(1, 1, 8), 0);
        ShadowTwin clouds = Check.told("room 1 2;sun 0 1 1;doing d 1 0 1 1;cloud 100;");
        Check.due("always clouds", clouds.chance(1, 99, 1), 0);
        Check.due("none needed", clouds.chance(1, 99, 0), 10);
    }

    private static void triedOtherwise() {
        Check.about("TRIED for n HOURS as it goes: WORTH more: 0 as it goes, 1 no clouds, 2 LAMP i isn't LIT, 3 no walls,"
            + " 4 she is never TIRED, 5 no SUN.");
        String room = "room 1 8;her 0 3;lamp l 0 2 9;step 0 1;step 1 1;law tired 9;sun 0 3 2;doing a 1 0 2 1;doing b 1 0 6 2;"
            + "doing c 0 0 4 4;doing d 0 0 5 8;";
        tried(room + "cloud 49;", 4 + 1, 4 + 1, 4 + 1, 4 + 1, 4 + 8 + 1, 4 + 2);
        tried(room + "cloud 50;", 4 + 2, 4 + 1, 4, 4 + 2, 4 + 8 + 2, 4 + 2);
        String wall = "room 1 8;her 0 3;wall 0 4;step 0 1;step 1 1;law tired 8;doing a 0 0 4 1;doing b 0 0 5 2;lamp l 0 7 1;";
        tried(wall, 0, 0, 0, 3, 0, 0);
        String border = "room 1 4;her 0 3;step 0 1;step 1 3;doing a 0 0 2 1;lamp l 0 0 1;";
        tried(border, 1, 1, 1, 1, 1, 1);
        ShadowTwin x = Check.told("room 1 8;wall 0 1;step 0 1;doing a 0 0 0 3;doing b 0 0 1 5;");
        x.go(0);
        Check.due("hours go as they did", x.tried(3, 0, 1), 5);
        x.go(1);
        Check.due("more than now", x.tried(0, 0, 1), 0);
        Check.due("the wall stands", x.wall(0, 1), 1);
        Check.due("she is where she was", x.where(1), 0);
    }

    private static void tried(String text, int... due) {
        ShadowTwin x = Check.told(text);
        String before = Check.all(x);
        for (int what = 0; what < due.length; what++) {
            Check.due(text + " tried " + what, x.tried(what, 0, 2), due[what]);
        }
        Check.same("nothing is changed", Check.all(x), before);
    }

    private static void triedLamps() {
        Check.about("2 LAMP i isn't LIT");
        ShadowTwin x = Check.told("room 1 8;her 0 4;lamp a 0 3 9;lamp b 0 5 9;lamp c 0 2 9;lamp d 0 7 9;law long lit;"
            + "doing a 1 0 7 1;doing b 1 0 1 2;doing c 1 0 6 4;");
        Check.due("four are lit", x.tried(0, 0, 1), 1);
        Check.due("without a", x.tried(2, 0, 1), 2);
        Check.due("without b", x.tried(2, 1, 1), 1);
        x.light(1, false);
        Check.due("it isn't lit anyway", x.tried(2, 1, 1), 1);
        x.light(3, false);
        Check.due("two are lit", x.tried(0, 0, 1), 4);
        Check.due("one of them", x.tried(2, 2, 1), 0);
        Check.due("they are lit all the same", x.count(11), 2);
    }

    private static void triedOfAll() {
        Check.about("TRIED (n 0 .. 99); NONE: no such ones (i 0 of all but 2).");
        ShadowTwin x = Check.told("step 98 1;doing d 0 0 1 7;lamp a 0 0 1;lamp b 0 0 1;");
        for (int what = 0; what <= 5; what++) {
            Check.due("n 0", x.tried(what, 0, 0), 0);
            Check.due("n 98", x.tried(what, 0, 98), 0);
            Check.due("n 99", x.tried(what, 0, 99), 7);
            Check.due("n 100", x.tried(what, 0, 100), -1);
            Check.due("i 1 of " + what, x.tried(what, 1, 99), what == 2 ? 7 : -1);
            Check.due("i 2 of " + what, x.tried(what, 2, 99), -1);
            for (int beyond : BEYOND) {
                Check.due("n " + beyond, x.tried(what, 0, beyond), -1);
                Check.due("i " + beyond, x.tried(what, beyond, 0), -1);
            }
        }
        Check.due("what 6", x.tried(6, 0, 0), -1);
        for (int beyond : BEYOND) {
            Check.due("what " + beyond, x.tried(beyond, 0, 0), -1);
        }
        Check.due("no lamp at all", new ShadowTwin().tried(2, 0, 0), -1);
    }

    private static void undoAtMost() {
        Check.about("(20 at most)");
        for (int calls = 19; calls <= 22; calls++) {
            ShadowTwin x = Check.told("room 1 8;lamp l 0 0 1;law tired 0;");
            for (int i = 0; i < calls; i++) {
                x.step(i % 2 == 0 ? 1 : 3);
                Check.due("what can be undone", x.count(14), Math.min(20, i + 1));
            }
            int most = Math.min(20, calls);
            for (int left = most - 1; left >= 0; left--) {
                Check.due("undo", x.undo(), left);
            }
            Check.due("of " + calls, x.where(1), (calls - most) % 2);
            Check.due("no more", x.undo(), -1);
            Check.due("as it was", x.where(1), (calls - most) % 2);
        }
    }

    private static void undoByHours() {
        Check.about("if no HOUR went by since.");
        ShadowTwin x = Check.told("room 1 8;lamp l 0 0 1;");
        x.step(1);
        x.go(0);
        x.go(100);
        x.go(-1);
        Check.due("none went by", x.count(14), 1);
        x.go(1);
        Check.due("one went by", x.count(14), 0);
        Check.due("nothing to undo", x.undo(), -1);
        Check.due("she stays", x.where(1), 1);
        x.light(0, false);
        Check.due("only what came since", x.undo(), 0);
        Check.due("the lamp", x.lamp(0, 3), 1);
        Check.due("she stays", x.where(1), 1);
    }

    private static void undoLatestFirst() {
        Check.about("The latest is undone: how many are left; NONE: none.");
        ShadowTwin x = Check.told("room 2 8;lamp l 0 0 1;doing d 0 0 0 1;law tired weary+2;");
        Check.due("none", x.undo(), -1);
        x.go(1);
        String[] states = new String[6];
        for (int i = 0; i < states.length; i++) {
            states[i] = Check.all(x);
            change(x, i);
            refusedCalls(x);
            Check.due("refused ones aren't among them", x.count(14), i + 1);
        }
        for (int i = states.length - 1; i >= 0; i--) {
            Check.due("undo", x.undo(), i);
            Check.same("as before", Check.all(x), states[i]);
        }
        Check.due("none", x.undo(), -1);
        Check.same("nothing is changed", Check.all(x), states[0]);
    }

    private static void change(ShadowTwin x, int i) {
        boolean is = switch (i) {
            case 0 -> x.step(1) == 2;
            case 1 -> x.light(0, false);
            case 2 -> x.again(0);
            case 3 -> x.step(2) == 6;
            case 4 -> x.light(0, true);
            default -> x.step(3) == 14;
        };
        Check.due("change " + i, is, true);
    }

    private static void refusedCalls(ShadowTwin x) {
        Check.due("out of the room", x.step(x.where(0) == 0 ? 0 : 2), -2);
        Check.due("no such way", x.step(4), -1);
        Check.due("it is so", x.light(0, x.lamp(0, 3) == 1), false);
        Check.due("no such lamp", x.light(1, false), false);
        Check.due("no such doing", x.again(1), false);
    }

    private static void keepOne() {
        Check.about("An IMAGE is kept (in place of one ahead): which HOUR it is.");
        ShadowTwin x = Check.told("room 1 8;sun 0 1 1;cloud 50;lamp l 0 0 9;law tired 0;");
        Check.due("at first", x.keep(), 0);
        x.go(99);
        x.step(1);
        Check.due("at 99", x.keep(), 99);
        Check.due("what can be undone stays", x.count(14), 1);
        x.go(5);
        Check.due("the later one", x.back(), 99);
        Check.due("her column", x.where(1), 1);
        x.step(1);
        x.keep();
        x.step(1);
        Check.due("of the same hour", x.back(), 99);
        Check.due("her column then", x.where(1), 2);
    }

    private static void imageButSeen() {
        Check.about("An IMAGE keeps all but what was SEEN.");
        ShadowTwin x = Check.told("room 1 4;sun 0 1 1;lamp l 0 3 9;step 0 0;step 3 0;doing a 0 0 0 3;doing b 1 0 2 5;man m 0 1;cloud 50;seed 3;"
            + "law tired 3;");
        x.go(2);
        x.step(1);
        x.see(1, 0, 0, 0, true);
        x.keep();
        String[] kept = withoutUndo(x);
        x.see(1, 0, 0, 1, true);
        x.go(5);
        x.light(0, false);
        x.again(0);
        x.step(1);
        x.known(1);
        Check.due("back", x.back(), 2);
        Check.due("both are seen", x.count(12), 2);
        Check.due("so is by how many it is known", x.count(13), 1);
        x.known(-1);
        String[] now = withoutUndo(x);
        for (int i = 0; i < kept.length; i++) {
            // what was SEEN: counts 12 and 13, and how many HOMES there are
            if (i != 12 && i != 13 && i < kept.length - 2) {
                Check.same("part " + i, now[i], kept[i]);
            }
        }
    }

    /** back() leaves nothing to undo: the fifteenth number. */
    private static String[] withoutUndo(ShadowTwin x) {
        String[] parts = Check.all(x).split(" ");
        parts[14] = "0";
        return parts;
    }

    private static void backOfAll() {
        Check.about("All (but what was SEEN) is as in the IMAGE (nothing to undo then): which HOUR it is; NONE: there is none.");
        ShadowTwin x = Check.told("room 1 8;sun 0 1 1;cloud 50;seed 9;");
        String before = Check.all(x);
        Check.due("there is none", x.back(), -1);
        Check.same("nothing is changed", Check.all(x), before);
        x.step(1);
        Check.due("what can be undone", x.count(14), 1);
        Check.due("there is none", x.back(), -1);
        Check.due("it stays", x.count(14), 1);
        x.keep();
        for (int i = 0; i < 3; i++) {
            x.step(1);
            Check.due("back at once", x.back(), 0);
            Check.due("nothing to undo", x.count(14), 0);
            Check.due("her column", x.where(1), 1);
        }
        x.go(40);
        int ones = x.count(10);
        x.back();
        Check.due("hours as one", x.count(10), 0);
        x.go(40);
        Check.due("the numbers, too", x.count(10), ones);
        x.text(0);
        Check.due("none behind a text", x.back(), -1);
    }

    private static void countOfAll() {
        Check.about("0 LAMPS, 1 DOINGS, 2 MEN, 3 ROWS, 4 COLUMNS, 5 KNOTS, 6 the HOUR, 7 DONE, 8 their WORTH, 9 REFUSED so far,"
            + " 10 HOURS in which they were ONE so far, 11 LAMPS LIT, 12 SEEN, 13 by how many it is KNOWN, 14 what can be undone."
            + " NONE for another what.");
        ShadowTwin x = Check.told("room 7 2;lamp a 6 1 1;lamp b 6 1 1;lamp c 6 1 1;doing d 0 0 0 40;doing e 0 0 0 50;man m 0 0;"
            + "step 0 0;step 0 3;step 1 0;law long 1+2;law fond not 1;");
        x.go(5);
        x.light(2, false);
        x.see(1, 0, 0, 0, true);
        x.see(1, 0, 0, 1, true);
        x.known(1);
        int[] due = {3, 2, 1, 7, 2, 5, 5, 2, 90, 3, 5, 2, 2, 1, 1};
        for (int what = 0; what < due.length; what++) {
            Check.due("count(" + what + ")", x.count(what), due[what]);
        }
        Check.due("count(15)", x.count(15), -1);
        for (int beyond : BEYOND) {
            Check.due("count(" + beyond + ")", x.count(beyond), -1);
        }
        x.again(0);
        Check.due("done", x.count(7), 1);
        Check.due("worth", x.count(8), 50);
    }

    private static void calls() {
        Check.about("An object is used for at most 512 calls after it has been made;");
        ShadowTwin x = new ShadowTwin();
        for (int i = 1; i < 512; i++) {
            x.go(i % 2);
        }
        Check.due("the 512th call", x.count(6), 256);
    }
}
