/** Both sides of every boundary that ==== 2. of the document and promises 6 to 15 name, a test for each sentence. */
public final class EdgeHourTest {
    private static final int[] DOWN = {-1, 0, 1, 0};
    private static final int[] RIGHT = {0, 1, 0, -1};
    private static final int[] BEYOND = {-1, Integer.MIN_VALUE, Integer.MAX_VALUE};

    public static void main(String[] args) {
        sunOfThisHour();
        nearestLamp();
        rangeOfLamps();
        awayFromTheLamp();
        inTheLampsCell();
        longWithinBounds();
        longWithout();
        notOutOfTheRoom();
        byNoCells();
        wallsDontStopIt();
        cloudsByNumbers();
        cloudsWithoutNumbers();
        stepsByNumbers();
        stepsIntoTheNextCell();
        tiredLessThanNine();
        tiredWithinBounds();
        doingsByCells();
        menMetOrTrod();
        fondWithinBounds();
        oftenAtMost();
        tiredNoMoreAtTwentyThree();
        namesFar();
        namesOfTheMan();
        namesElse();
        valuesOfSigns();
        valuesCut();
        errorsByZero();
        errorsByLimit();
        asItGoes();
        nowAheadOfSteps();
        whereOfAll();
        doingThrows();
        manOfAll();
        lampOfAll();
        wallOfAll();
        lawOfAll();
        lawOnceMore();
        stepByCall();
        lightByCall();
        againByCall();
        goNumbers();
        goBehindTheLast();
        Check.end();
    }

    private static void falls(String what, ShadowTwin x, int down, int right) {
        Check.due(what + ": rows away", x.where(2) - x.where(0), down);
        Check.due(what + ": columns away", x.where(3) - x.where(1), right);
        Check.due(what + ": one", x.where(4), down == 0 && right == 0 ? 1 : 0);
    }

    private static void falls(String text, int down, int right) {
        falls(text, Check.told(text), down, right);
    }

    private static void sunOfThisHour() {
        Check.about("the SUN of this HOUR of the day (modulo 24), if there are any, its LENGTH isn't 0 and there are no clouds;");
        String lamp = "her 2 2;lamp l 2 3 9;";
        falls(lamp, 0, -1);
        falls(lamp + "sun 0 0 0;", 0, -1);
        falls(lamp + "sun 0 0 1;", -1, 0);
        falls(lamp + "sun 0 0 1;cloud 49;", -1, 0);
        falls(lamp + "sun 0 0 1;cloud 50;", 0, -1);
        ShadowTwin x = Check.told(lamp + "sun 5 0 1;sun 6 0 0;sun 7 2 1;");
        for (int hour = 0; hour < 56; hour++) {
            int ofDay = hour % 24;
            falls("hour " + hour, x, ofDay == 6 ? 0 : ofDay == 5 ? -1 : 1, ofDay == 6 ? -1 : 0);
            x.go(1);
        }
    }

    private static void nearestLamp() {
        Check.about("else the LAMP that is LIT nearest to her (differences of ROWS and COLUMNS added up),"
            + " no farther than its RANGE, of several the first; else none: they are ONE.");
        String room = "room 8 8;her 4 4;law long 1;";
        falls(room + "lamp a 4 1 9;lamp b 4 6 9;", 0, -1);
        falls(room + "lamp a 4 2 9;lamp b 4 6 9;", 0, 1);
        falls(room + "lamp b 4 6 9;lamp a 4 2 9;", 0, -1);
        falls(room + "lamp a 4 3 9;lamp b 4 6 9;", 0, 1);
        // added up, not the greater one: 3 and 0 are nearer than 2 and 2
        falls(room + "lamp a 2 2 9;lamp b 4 7 9;", 0, -1);
        falls(room + "lamp a 2 3 9;lamp b 4 7 9;", 1, 0);
        // a nearer one that doesn't reach her is none
        falls(room + "lamp a 4 2 1;lamp b 4 7 3;", 0, -1);
        falls(room + "lamp a 4 2 1;lamp b 4 7 2;", 0, 0);
        ShadowTwin x = Check.told(room + "lamp a 4 3 9;lamp b 4 6 9;lamp c 1 4 9;lamp d 7 7 6;");
        falls("a", x, 0, 1);
        x.light(0, false);
        falls("b", x, 0, -1);
        x.light(1, false);
        falls("c", x, 1, 0);
        x.light(2, false);
        falls("d", x, -1, 0);
        x.light(3, false);
        falls("none", x, 0, 0);
        x.light(1, true);
        falls("b again", x, 0, -1);
    }

    private static void rangeOfLamps() {
        Check.about("no farther than its RANGE");
        for (int far = 1; far <= 10; far++) {
            int rows = Math.min(6, far);
            String lamp = "room 8 8;her 1 1;law long 1;lamp l " + (1 + rows) + " " + (1 + far - rows) + " ";
            for (int range = 1; range <= 9; range++) {
                falls(lamp + range + ";", far <= range ? -1 : 0, 0);
            }
        }
    }

    private static void awayFromTheLamp() {
        Check.about("by a LAMP away from it (up or down, if the ROWS differ as much as the COLUMNS at least, by the sign of that;"
            + " else left or right; in the LAMP's cell they are ONE)");
        for (int row = 0; row < 7; row++) {
            for (int column = 0; column < 7; column++) {
                int down = 3 - row;
                int right = 3 - column;
                boolean isUpOrDown = Math.abs(down) >= Math.abs(right);
                falls("room 7 7;her 3 3;law long 1;lamp l " + row + " " + column + " 9;",
                    isUpOrDown ? Integer.signum(down) : 0, isUpOrDown ? 0 : Integer.signum(right));
            }
        }
    }

    private static void inTheLampsCell() {
        Check.about("in the LAMP's cell they are ONE");
        falls("her 2 2;lamp l 2 2 9;", 0, 0);
        falls("her 2 2;lamp l 2 2 9;law long 3;", 0, 0);
        falls("her 2 2;lamp l 2 2 9;law long 1/0;", 0, 0);
        falls("her 2 2;lamp k 2 3 9;lamp l 2 2 9;law long 1;", 0, 0);
        falls("her 2 2;lamp k 2 3 9;lamp l 2 1 9;law long 1;", 0, -1);
    }

    private static void longWithinBounds() {
        Check.about("as many cells as E of long says (0 .. 7;");
        for (int cells = 0; cells <= 9; cells++) {
            falls("room 1 8;sun 0 1 1;law long " + cells + ";", 0, Math.min(7, cells));
            falls("room 8 1;her 7 0;lamp l 7 0 9;sun 0 0 1;law long " + cells + ";", -Math.min(7, cells), 0);
            falls("her 2 2;sun 0 1 1;law long 0-" + cells + ";", 0, 0);
        }
        falls("her 2 2;sun 0 1 1;law long 9999*9999*9999;", 0, 2);
        falls("her 2 2;sun 0 1 1;law long 0-9999*9999*9999;", 0, 0);
        // 2 to the 32 and 1 more is no 1
        falls("room 1 8;sun 0 1 1;law long 4096*4096*256+1;", 0, 7);
    }

    private static void longWithout() {
        Check.about("LENGTH, or how far the LAMP is, without, with an ERROR)");
        for (int length = 1; length <= 7; length++) {
            String sun = "room 1 8;sun 0 1 " + length + ";";
            falls(sun, 0, length);
            falls(sun + "law long 1/0;", 0, length);
            falls(sun + "law long 9999*9999*9999*9999;", 0, length);
            falls(sun + "law fond 0;law tired 0;", 0, length);
        }
        for (int far = 1; far <= 3; far++) {
            String lamp = "room 1 8;her 0 " + far + ";lamp l 0 0 9;";
            falls(lamp, 0, far);
            falls(lamp + "law long 1/(far-far);", 0, far);
        }
    }

    private static void notOutOfTheRoom() {
        Check.about("but not out of the room (then the last one in it)");
        for (int way = 0; way < 4; way++) {
            for (int length = 1; length <= 7; length++) {
                int cells = Math.min(2, length);
                falls("her 2 2;sun 0 " + way + " " + length + ";", cells * DOWN[way], cells * RIGHT[way]);
            }
        }
        falls("room 1 8;her 0 3;lamp l 0 0 9;law long 5;", 0, 4);
        falls("room 1 8;her 0 3;lamp l 0 0 9;law long 4;", 0, 4);
        falls("room 1 8;her 0 3;lamp l 0 0 9;law long 3;", 0, 3);
    }

    private static void byNoCells() {
        Check.about("by 0 cells they are ONE.");
        falls("her 2 2;sun 0 1 1;law long 0;", 0, 0);
        falls("her 2 2;sun 0 1 1;law long 1;", 0, 1);
        int[] rows = {0, 2, 4, 2};
        int[] columns = {2, 4, 2, 0};
        for (int way = 0; way < 4; way++) {
            falls("her " + rows[way] + " " + columns[way] + ";sun 0 " + way + " 3;", 0, 0);
            int back = (way + 2) % 4;
            falls("her " + rows[way] + " " + columns[way] + ";sun 0 " + back + " 3;", 3 * DOWN[back], 3 * RIGHT[back]);
        }
    }

    private static void wallsDontStopIt() {
        Check.about("Walls don't stop it. ONE: it is where she is.");
        falls("room 1 8;wall 0 1;wall 0 3;sun 0 1 2;", 0, 2);
        falls("room 1 8;wall 0 1;wall 0 3;sun 0 1 3;", 0, 3);
        falls("room 1 8;wall 0 1;wall 0 3;sun 0 1 1;", 0, 1);
        falls("room 1 8;wall 0 1;wall 0 7;sun 0 1 7;", 0, 7);
    }

    private static void cloudsByNumbers() {
        Check.about("(1) clouds: a number modulo 100 (no number, if cloud is 0 or 100 or there are no SUNS) below cloud.");
        Check.about("Numbers are the last one (at first the seed) times 1103515245 and 12345, without what is above 31 bits, by 65536.");
        int looked = 0;
        for (int seed = 0; seed <= 99999; seed += 1111) {
            long first = Check.nextNumber(seed) / 65536 % 100;
            if (first < 1 || first > 98) {
                continue;
            }
            looked++;
            for (long cloud = first; cloud <= first + 1; cloud++) {
                ShadowTwin x = Check.told("sun 0 1 1;seed " + seed + ";cloud " + cloud + ";");
                long number = seed;
                int ones = 0;
                for (int hour = 1; hour <= 30; hour++) {
                    number = Check.nextNumber(number);
                    ones += number / 65536 % 100 < cloud ? 1 : 0;
                    x.go(1);
                    Check.due("seed " + seed + ", cloud " + cloud + ", hour " + hour, x.count(10), ones);
                }
            }
        }
        Check.due("enough seeds", looked > 80, true);
    }

    private static void cloudsWithoutNumbers() {
        Check.about("(no number, if cloud is 0 or 100 or there are no SUNS)");
        for (int seed = 0; seed < 20; seed++) {
            ShadowTwin none = Check.told("sun 0 1 1;cloud 0;seed " + seed + ";");
            none.go(99);
            Check.due("never", none.count(10), 0);
            ShadowTwin all = Check.told("sun 0 1 1;cloud 100;seed " + seed + ";");
            all.go(99);
            Check.due("always", all.count(10), 99);
            ShadowTwin lamps = Check.told("her 0 1;lamp l 0 0 9;cloud 50;seed " + seed + ";");
            lamps.go(99);
            Check.due("lamps shine below clouds", lamps.count(10), 0);
        }
        ShadowTwin dark = Check.told("cloud 1;");
        dark.go(99);
        Check.due("one without a light", dark.count(10), 99);
    }

    private static void stepsByNumbers() {
        Check.about("(2) steps of this HOUR, by their numbers:");
        ShadowTwin right = Check.told("room 2 2;wall 1 0;step 0 1;step 0 2;");
        right.go(1);
        Check.due("right, then down", right.where(0) * 10 + right.where(1), 11);
        ShadowTwin down = Check.told("room 2 2;wall 1 0;step 0 2;step 0 1;");
        down.go(1);
        Check.due("down is refused, then right", down.where(0) * 10 + down.where(1), 1);
        Check.due("refused", down.count(9), 1);
        ShadowTwin hours = Check.told("room 1 4;step 24 1;step 0 1;step 23 1;");
        int[] columns = {1, 1, 2, 3, 3};
        int[] at = {1, 23, 24, 25, 49};
        for (int i = 0; i < at.length; i++) {
            hours.go(at[i] - hours.count(6));
            Check.due("behind " + at[i], hours.where(1), columns[i]);
        }
    }

    private static void stepsIntoTheNextCell() {
        Check.about("she goes into the next cell that WAY, if it is in the room, no wall and she is TIRED less than 9;");
        for (int way = 0; way < 4; way++) {
            ShadowTwin free = Check.told("her 2 2;step 0 " + way + ";");
            free.go(1);
            Check.due("row", free.where(0), 2 + DOWN[way]);
            Check.due("column", free.where(1), 2 + RIGHT[way]);
            Check.due("tired", free.where(5), 1);
            Check.due("not refused", free.count(9), 0);
            refused("her 2 2;wall " + (2 + DOWN[way]) + " " + (2 + RIGHT[way]) + ";step 0 " + way + ";");
            refused("her " + (2 + 2 * DOWN[way]) + " " + (2 + 2 * RIGHT[way]) + ";step 0 " + way + ";");
            refused("room 1 1;step 0 " + way + ";");
        }
    }

    private static void refused(String text) {
        ShadowTwin x = Check.told(text);
        int cell = x.where(0) * 10 + x.where(1);
        x.go(1);
        Check.due(text + " she stays", x.where(0) * 10 + x.where(1), cell);
        Check.due(text + " not tired", x.where(5), 0);
        Check.due(text + " refused", x.count(9), 1);
    }

    private static void tiredLessThanNine() {
        Check.about("she is TIRED less than 9; she is more TIRED by E of tired");
        for (int by = 0; by <= 9; by++) {
            ShadowTwin x = Check.told("room 1 8;law tired " + by + ";" + "step 0 1;step 0 3;".repeat(6));
            int goes = by == 0 ? 12 : Math.min(12, (9 + by - 1) / by);
            x.go(1);
            Check.due("by " + by + ": refused", x.count(9), 12 - goes);
            Check.due("by " + by + ": tired", x.where(5), goes * by);
            Check.due("by " + by + ": column", x.where(1), goes % 2);
        }
    }

    private static void tiredWithinBounds() {
        Check.about("E of tired (0 .. 9; 1 without, with an ERROR), 99 at most; else it is REFUSED.");
        String[] laws = {"law tired 0-1;", "law tired 0-9999*9999*9999;", "law tired 0;", "law tired 1;", "law tired 9;",
            "law tired 10;", "law tired 9999*9999*9999;", "law tired 4096*4096*256+2;", "", "law tired 1/0;", "law tired 9999*9999*9999*9999;"};
        int[] due = {0, 0, 0, 1, 9, 9, 9, 9, 1, 1, 1};
        for (int i = 0; i < laws.length; i++) {
            ShadowTwin x = Check.told("step 0 1;" + laws[i]);
            Check.due(laws[i] + " by call", x.step(2), due[i]);
            x.undo();
            x.go(1);
            Check.due(laws[i], x.where(5), due[i]);
        }
        ShadowTwin most = Check.told("law tired 9-(weary=0);step 0 1;step 0 1;step 0 1;");
        most.go(1);
        Check.due("8 and 9 at the most", most.where(5), 17);
    }

    private static void doingsByCells() {
        Check.about("(4) by numbers each DOING that isn't DONE: it is DONE, if she (or it, and they aren't ONE) is in its cell.");
        String cells = "room 1 3;her 0 1;doing a 0 0 0 1;doing b 0 0 1 2;doing c 0 0 2 4;doing d 1 0 0 8;doing e 1 0 1 16;doing f 1 0 2 32;";
        worth(cells, 2);
        worth(cells + "sun 0 1 1;", 2 + 32);
        worth(cells + "sun 0 3 1;", 2 + 8);
        worth(cells + "sun 0 0 1;", 2);
        worth(cells + "sun 0 1 1;step 0 1;", 4);
        worth(cells + "sun 0 1 1;step 0 3;", 1 + 16);
        ShadowTwin x = Check.told(cells + "sun 0 1 1;");
        x.go(1);
        x.step(3);
        x.go(1);
        Check.due("what is done stays done", x.count(8), 2 + 32 + 1 + 16);
        ShadowTwin done = Check.told("room 1 8;sun 0 1 1;law long done+1;doing a 0 0 0 1;doing b 1 0 1 2;doing c 1 0 2 4;");
        done.go(1);
        Check.due("it fell ahead of that", done.count(8), 3);
    }

    private static void worth(String text, int due) {
        ShadowTwin x = Check.told(text);
        x.go(1);
        Check.due(text, x.count(8), due);
    }

    private static void menMetOrTrod() {
        Check.about("(5) by numbers each MAN: MET once more, if she is in his cell; else TROD once more, if it is (and they aren't ONE):");
        ShadowTwin x = Check.told("room 1 3;sun 0 1 1;man a 0 0;man b 0 1;man c 0 2;man d 0 0;law tired 0;");
        int[][] met = {{1, 0, 0, 1}, {1, 1, 0, 1}, {1, 1, 1, 1}};
        int[][] trod = {{0, 1, 0, 0}, {0, 1, 1, 0}, {0, 1, 1, 0}};
        for (int hour = 0; hour < 3; hour++) {
            x.go(1);
            for (int man = 0; man < 4; man++) {
                Check.due("met " + man + " behind " + hour, x.man(man, 2), met[hour][man]);
                Check.due("trod " + man + " behind " + hour, x.man(man, 3), trod[hour][man]);
                Check.due("fond " + man + " behind " + hour, x.man(man, 4), trod[hour][man]);
            }
            x.step(1);
        }
    }

    private static void fondWithinBounds() {
        Check.about("FOND is more by E of fond (0 .. 99; 1 without, with an ERROR) at TROD, 999 at most each.");
        String[] laws = {"law fond 0-1;", "law fond 0-9999*9999;", "law fond 0;", "law fond 1;", "law fond 99;", "law fond 100;",
            "law fond 9999*9999*9999;", "law fond 4096*4096*256+2;", "", "law fond 5/0;", "law fond 9999*9999*9999*9999;"};
        int[] due = {0, 0, 0, 1, 99, 99, 99, 99, 1, 1, 1};
        for (int i = 0; i < laws.length; i++) {
            ShadowTwin x = Check.told("room 1 2;sun 0 1 1;man a 0 0;man b 0 1;" + laws[i]);
            x.go(1);
            Check.due(laws[i], x.man(1, 4), due[i]);
            Check.due("not at met", x.man(0, 4), 0);
        }
        ShadowTwin most = Check.told("room 1 2;sun 0 1 1;man b 0 1;law fond 99-(trod=1);");
        most.go(10);
        Check.due("98 and nine times 99", most.man(0, 4), 989);
        most.go(1);
        Check.due("999 at most", most.man(0, 4), 999);
        most.go(1);
        Check.due("still", most.man(0, 4), 999);
        ShadowTwin exact = Check.told("room 1 2;sun 0 1 1;man b 0 1;law fond 98+(trod>1)-(trod=1)*89;");
        exact.go(11);
        Check.due("9 and ten times 99 are 999", exact.man(0, 4), 999);
        ShadowTwin below = Check.told("room 1 2;sun 0 1 1;man b 0 1;law fond 98+(trod>1)-(trod=1)*90;");
        below.go(11);
        Check.due("8 and ten times 99 are 998", below.man(0, 4), 998);
        below.go(1);
        Check.due("999 at most", below.man(0, 4), 999);
    }

    private static void oftenAtMost() {
        Check.about("999 at most each.");
        ShadowTwin x = Check.told("room 1 2;sun 0 1 1;man a 0 0;man b 0 1;law fond 0;");
        for (int i = 0; i < 10; i++) {
            x.go(99);
        }
        x.go(8);
        Check.due("met 998 times", x.man(0, 2), 998);
        Check.due("trod 998 times", x.man(1, 3), 998);
        for (int i = 0; i < 3; i++) {
            x.go(1);
            Check.due("met 999 times", x.man(0, 2), 999);
            Check.due("trod 999 times", x.man(1, 3), 999);
        }
        Check.due("still to her", x.man(0, 5), 0);
        Check.due("still to it", x.man(1, 5), 1);
    }

    private static void tiredNoMoreAtTwentyThree() {
        Check.about("(6) at HOUR 23 of the day she isn't TIRED any more. Then it is the next HOUR.");
        ShadowTwin x = Check.told("room 1 8;step 22 1;step 23 1;step 24 1;step 47 1;step 48 1;law tired 3;");
        int[] at = {22, 23, 24, 25, 47, 48, 49};
        int[] tired = {0, 3, 0, 3, 3, 0, 3};
        for (int i = 0; i < at.length; i++) {
            x.go(at[i] - x.count(6));
            Check.due("behind " + at[i], x.where(5), tired[i]);
        }
        x.step(1);
        x.go(71 - 49);
        Check.due("ahead of hour 71", x.where(5), 6);
        x.go(1);
        Check.due("behind hour 71", x.where(5), 0);
        ShadowTwin once = Check.told("room 1 8;sun 0 1 1;law long weary+1;step 23 1;doing a 1 0 2 1;doing b 1 0 3 2;");
        once.go(24);
        Check.due("still tired at (3) of it", once.count(8), 3 - 1);
    }

    private static void namesFar() {
        Check.about("far: LENGTH of the SUN or how far the LAMP is (of fond, tired 0);");
        for (int length = 1; length <= 7; length++) {
            Check.due("length", Check.told("sun 0 1 " + length + ";law long far;").law(0, 0), length);
        }
        Check.due("length 0", Check.told("sun 0 1 0;law long far+9;").law(0, 0), 9);
        Check.due("how far", Check.told("room 8 8;lamp l 2 7 9;law long far;").law(0, 0), 9);
        Check.due("too far", Check.told("room 8 8;lamp l 2 7 8;law long far;").law(0, 0), 0);
        Check.due("in its cell", Check.told("room 8 8;lamp l 0 0 8;law long far+5;").law(0, 0), 5);
        ShadowTwin x = Check.told("sun 0 1 5;man m 0 0;law fond far+1;law tired far+2;");
        Check.due("of fond", x.law(1, 0), 1);
        Check.due("of tired", x.law(2, 0), 2);
    }

    private static void namesOfTheMan() {
        Check.about("met, trod: those of the MAN, this time, too (of long, tired 0);");
        ShadowTwin x = Check.told("room 1 3;sun 0 1 1;man a 0 0;man b 0 1;law fond met*10+trod;law long met+trod+1;law tired met+trod+2;");
        x.go(3);
        Check.due("1 and 2 and 3", x.man(1, 4), 6);
        Check.due("long", x.law(0, 0), 1);
        Check.due("tired", x.law(2, 1), 2);
        x.step(1);
        x.go(2);
        Check.due("not at met", x.man(1, 4), 6);
        x.step(3);
        x.go(1);
        Check.due("met twice, trod the fourth time", x.man(1, 4), 6 + 24);
    }

    private static void namesElse() {
        Check.about("done: how many DOINGS are DONE; weary: how TIRED she is; lit: how many LAMPS are LIT; hour: the HOUR of the day.");
        ShadowTwin x = Check.told("room 1 8;doing a 0 0 0 1;doing b 0 0 0 1;doing c 0 0 1 1;lamp l 0 7 1;lamp k 0 7 1;"
            + "law long hour;law tired done*100+lit*10+weary;");
        Check.due("at first", x.law(2, 0), 20);
        x.go(1);
        Check.due("two are done", x.law(2, 0), 220);
        x.light(1, false);
        Check.due("one is lit", x.law(2, 0), 210);
        x.again(1);
        Check.due("one is done", x.law(2, 0), 110);
        x.step(1);
        Check.due("tired by 9", x.law(2, 0), 119);
        int[] hours = {1, 22, 23, 24, 25, 47, 48, 71, 72, 100};
        for (int hour : hours) {
            x.go(hour - x.count(6));
            Check.due("hour " + hour, x.law(0, 0), hour % 24);
        }
    }

    private static void value(String e, long due) {
        Check.due(e, Check.told("law tired " + e + ";").law(2, 0), due);
    }

    private static void valuesOfSigns() {
        Check.about("comparisons, and, or, not are 1 or 0 (what isn't 0 is as 1, both sides are worked out)");
        String[] signs = {"<", "<=", "=", "<>", ">=", ">"};
        int[][] due = {{1, 0, 0}, {1, 1, 0}, {0, 1, 0}, {1, 0, 1}, {0, 1, 1}, {0, 0, 1}};
        for (int i = 0; i < signs.length; i++) {
            for (int k = 0; k < 3; k++) {
                value((4 + k) + signs[i] + "5", due[i][k]);
                value("0-" + (6 - k) + signs[i] + "0-5", due[i][k]);
            }
        }
        int[] values = {0, 1, 2, 9};
        for (int a : values) {
            value("not " + a, a == 0 ? 1 : 0);
            value("not (0-" + a + ")", a == 0 ? 1 : 0);
            for (int b : values) {
                value(a + " and " + b, a != 0 && b != 0 ? 1 : 0);
                value("0-" + a + " and 0-" + b, a != 0 && b != 0 ? 1 : 0);
                value(a + " or " + b, a != 0 || b != 0 ? 1 : 0);
                value("0-" + a + " or 0-" + b, a != 0 || b != 0 ? 1 : 0);
            }
        }
        value("1 or 1/0", Long.MIN_VALUE);
        value("1/0 or 1", Long.MIN_VALUE);
        value("0 and 1/0", Long.MIN_VALUE);
        value("1/0 and 0", Long.MIN_VALUE);
        value("1<1/0", Long.MIN_VALUE);
        value("0*(1/0)", Long.MIN_VALUE);
        value("not (1/0)", Long.MIN_VALUE);
    }

    private static void valuesCut() {
        Check.about("/ is cut towards 0;");
        int[] values = {-9, -8, -7, -4, -3, -1, 0, 1, 3, 4, 7, 8, 9};
        for (int a : values) {
            for (int b : values) {
                if (b != 0) {
                    value("(" + signed(a) + ")/(" + signed(b) + ")", a / b);
                }
            }
        }
    }

    private static String signed(int value) {
        return value < 0 ? "0-" + -value : String.valueOf(value);
    }

    private static void errorsByZero() {
        Check.about("ERROR: / by 0");
        value("1/1", 1);
        value("1/0", Long.MIN_VALUE);
        value("0/1", 0);
        value("0/0", Long.MIN_VALUE);
        value("1/(1-1)", Long.MIN_VALUE);
        value("1/(1-2)", -1);
        value("1/(1/2)", Long.MIN_VALUE);
        value("1/weary", Long.MIN_VALUE);
        value("5/(not 1)", Long.MIN_VALUE);
        value("5/(not 0)", 5);
    }

    private static void errorsByLimit() {
        Check.about("a value above 10 to the 12 or below 0 by more than that.");
        String million = "1000*1000";
        long limit = 1000000000000L;
        value(million + "*" + million, limit);
        value(million + "*" + million + "+1", Long.MIN_VALUE);
        value(million + "*" + million + "-1", limit - 1);
        value("1+" + million + "*" + million, Long.MIN_VALUE);
        value("0-" + million + "*" + million, -limit);
        value("0-" + million + "*" + million + "-1", Long.MIN_VALUE);
        value("0-1-" + million + "*" + million, Long.MIN_VALUE);
        value("0-" + million + "*" + million + "+1", 1 - limit);
        value("(" + million + "+1)*(" + million + ")", Long.MIN_VALUE);
        value("(" + million + "+1)*(" + million + "-1)", limit - 1);
        value("(0-" + million + ")*(" + million + ")", -limit);
        value("(0-" + million + ")*(0-" + million + ")", limit);
        value("(0-" + million + "-1)*(" + million + ")", Long.MIN_VALUE);
        value("(" + million + ")*(0-" + million + "-1)", Long.MIN_VALUE);
        value("(0-" + million + "-1)*(0-" + million + ")", Long.MIN_VALUE);
        // what comes back behind it is an ERROR all the same
        value("(" + million + "*" + million + "+1)-1", Long.MIN_VALUE);
        value("(" + million + "*" + million + "*2)/2", Long.MIN_VALUE);
        value("0*(" + million + "*" + million + "*2)", Long.MIN_VALUE);
        // products beyond a long, too: 2 to the 64 is 0 there
        value("(" + million + "*" + million + ")*(" + million + "*" + million + ")", Long.MIN_VALUE);
        value("(4096*4096*256)*(4096*4096*256)", Long.MIN_VALUE);
        value("(0-4096*4096*256)*(4096*4096*256)", Long.MIN_VALUE);
        value("(4096*4096*256)*(0-4096*4096*256)", Long.MIN_VALUE);
        value("(0-4096*4096*256)*(0-4096*4096*256)", Long.MIN_VALUE);
        value("(4096*4096*256)*(4096*4096*128)", Long.MIN_VALUE);
        value("(" + million + "*" + million + ")*0", 0);
        value("0*(" + million + "*" + million + ")", 0);
        value("(" + million + "*" + million + ")/(" + million + "*" + million + ")", 1);
    }

    private static void asItGoes() {
        Check.about("AS IT GOES: without numbers: clouds, if cloud is 50 at least.");
        int[] clouds = {0, 1, 49, 50, 51, 99, 100};
        for (int cloud : clouds) {
            ShadowTwin x = Check.told("room 1 2;sun 0 1 1;doing d 1 0 1 7;cloud " + cloud + ";");
            boolean isClear = cloud < 50;
            Check.due("where", x.where(4), isClear ? 0 : 1);
            Check.due("ahead", x.ahead(9, 4), isClear ? 0 : 9);
            Check.due("when", x.when(0), isClear ? 1 : -2);
            Check.due("plan", x.plan(4), isClear ? 7 : 0);
            Check.due("tried", x.tried(0, 0, 9), isClear ? 7 : 0);
            x.see(1, 1, 0, 1, true);
            Check.due("homes", x.homes(0), isClear ? 2 : 1);
        }
    }

    private static void nowAheadOfSteps() {
        Check.about("Now: by the LIGHT of this HOUR as it goes, ahead of (2).");
        ShadowTwin x = Check.told("room 1 8;sun 0 1 1;sun 1 1 2;step 0 1;step 1 1;law tired 0;");
        Check.due("her column", x.where(1), 0);
        Check.due("its column", x.where(3), 1);
        x.go(1);
        Check.due("her column then", x.where(1), 1);
        Check.due("its column by the sun of the next hour", x.where(3), 3);
        x.step(1);
        Check.due("her column by call", x.where(1), 2);
        Check.due("its column by call", x.where(3), 4);
    }

    private static void whereOfAll() {
        Check.about("Now, what 0 her ROW, 1 her COLUMN, 2 its ROW, 3 its COLUMN, 4 whether ONE (1, 0), 5 how TIRED she is. NONE for another what.");
        ShadowTwin x = Check.told("room 8 8;her 6 0;sun 0 1 5;law tired 4;");
        x.step(2);
        int[] due = {7, 0, 7, 5, 0, 4};
        for (int what = 0; what < due.length; what++) {
            Check.due("where(" + what + ")", x.where(what), due[what]);
        }
        Check.due("where(6)", x.where(6), -1);
        for (int what : BEYOND) {
            Check.due("where(" + what + ")", x.where(what), -1);
        }
    }

    private static void doingThrows() {
        Check.about("IndexOutOfBoundsException: no such DOING. NoSuchElementException: no such what.");
        ShadowTwin x = Check.told("doing a 0 1 2 3;doing b 1 4 0 99;");
        Check.same("doing(0, 0)", Check.thrown(x, 0, 0), "0");
        Check.same("doing(0, 4)", Check.thrown(x, 0, 4), "0");
        Check.same("doing(1, 0)", Check.thrown(x, 1, 0), "1");
        Check.same("doing(1, 1)", Check.thrown(x, 1, 1), "4");
        Check.same("doing(1, 2)", Check.thrown(x, 1, 2), "0");
        Check.same("doing(1, 3)", Check.thrown(x, 1, 3), "99");
        Check.same("doing(1, 4)", Check.thrown(x, 1, 4), "0");
        Check.same("doing(0, 5)", Check.thrown(x, 0, 5), "NoSuchElementException");
        Check.same("doing(2, 0)", Check.thrown(x, 2, 0), "IndexOutOfBoundsException");
        Check.same("doing(2, 5)", Check.thrown(x, 2, 5), "IndexOutOfBoundsException");
        for (int beyond : BEYOND) {
            Check.same("doing(" + beyond + ", 0)", Check.thrown(x, beyond, 0), "IndexOutOfBoundsException");
            Check.same("doing(1, " + beyond + ")", Check.thrown(x, 1, beyond), "NoSuchElementException");
        }
        Check.same("doing(0, 0) of none", Check.thrown(new ShadowTwin(), 0, 0), "IndexOutOfBoundsException");
        String all = "doing a 0 0 0 1;doing b 0 0 0 2;doing c 0 0 0 3;doing d 0 0 0 4;doing e 0 0 0 5;doing f 0 0 0 6;doing g 0 0 0 7;";
        ShadowTwin full = Check.told(all + "doing h 0 0 0 8;");
        Check.same("doing(7, 3)", Check.thrown(full, 7, 3), "8");
        Check.same("doing(8, 3)", Check.thrown(full, 8, 3), "IndexOutOfBoundsException");
        full.go(1);
        Check.same("doing(7, 4)", Check.thrown(full, 7, 4), "1");
    }

    private static void manOfAll() {
        Check.about("Of a MAN now, what 0 ROW, 1 COLUMN, 2 MET, 3 TROD, 4 FOND, 5 ENGAGED (0, 1; -2: to none). NONE: no such ones.");
        ShadowTwin x = Check.told("room 2 3;sun 0 1 1;man a 0 0;man b 0 1;man c 1 2;man d 0 2;law fond 7;law tired 0;");
        x.go(2);
        int[][] due = {{0, 0, 2, 0, 0, 0}, {0, 1, 0, 2, 14, 1}, {1, 2, 0, 0, 0, -2}, {0, 2, 0, 0, 0, -2}};
        for (int man = 0; man < 4; man++) {
            for (int what = 0; what < 6; what++) {
                Check.due("man(" + man + ", " + what + ")", x.man(man, what), due[man][what]);
            }
            Check.due("man(" + man + ", 6)", x.man(man, 6), -1);
            for (int beyond : BEYOND) {
                Check.due("man(" + man + ", beyond)", x.man(man, beyond), -1);
            }
        }
        Check.due("man(4, 0)", x.man(4, 0), -1);
        for (int beyond : BEYOND) {
            Check.due("man(" + beyond + ", 0)", x.man(beyond, 0), -1);
        }
        x.step(1);
        int[] engaged = {1, 1, -2, 0};
        for (int hour = 0; hour < engaged.length; hour++) {
            Check.due("trod twice, met " + hour + " times", x.man(1, 5), engaged[hour]);
            x.go(1);
        }
        Check.due("man(1, 0) of one", Check.told("man a 0 0;").man(1, 0), -1);
    }

    private static void lampOfAll() {
        Check.about("Of a LAMP now, what 0 ROW, 1 COLUMN, 2 RANGE, 3 whether LIT (1, 0). NONE: no such ones.");
        ShadowTwin x = Check.told("lamp a 0 1 2;lamp b 3 4 5;lamp c 0 0 9;lamp d 4 4 1;");
        x.light(2, false);
        int[][] due = {{0, 1, 2, 1}, {3, 4, 5, 1}, {0, 0, 9, 0}, {4, 4, 1, 1}};
        for (int lamp = 0; lamp < 4; lamp++) {
            for (int what = 0; what < 4; what++) {
                Check.due("lamp(" + lamp + ", " + what + ")", x.lamp(lamp, what), due[lamp][what]);
            }
            Check.due("lamp(" + lamp + ", 4)", x.lamp(lamp, 4), -1);
            for (int beyond : BEYOND) {
                Check.due("lamp(" + lamp + ", beyond)", x.lamp(lamp, beyond), -1);
            }
        }
        Check.due("lamp(4, 0)", x.lamp(4, 0), -1);
        for (int beyond : BEYOND) {
            Check.due("lamp(" + beyond + ", 0)", x.lamp(beyond, 0), -1);
            Check.due("lamp(" + beyond + ", 3)", x.lamp(beyond, 3), -1);
        }
        Check.due("lamp(1, 3) of one", Check.told("lamp a 0 0 1;").lamp(1, 3), -1);
    }

    private static void wallOfAll() {
        Check.about("Whether a cell is a wall (1, 0); NONE: no such cell.");
        ShadowTwin x = Check.told("room 3 7;her 1 1;wall 0 0;wall 2 6;wall 0 6;wall 2 0;");
        for (int row = -1; row <= 8; row++) {
            for (int column = -1; column <= 8; column++) {
                boolean isCell = row >= 0 && row < 3 && column >= 0 && column < 7;
                boolean isWall = (row == 0 || row == 2) && (column == 0 || column == 6);
                Check.due("wall(" + row + ", " + column + ")", x.wall(row, column), isCell ? isWall ? 1 : 0 : -1);
            }
        }
        for (int beyond : BEYOND) {
            Check.due("row beyond", x.wall(beyond, 0), -1);
            Check.due("column beyond", x.wall(0, beyond), -1);
        }
    }

    private static void lawOfAll() {
        Check.about("The law's E now (what 0 long by the LIGHT of now, far 0 of none; 1 fond of a MAN, as if TROD once more; 2 tired;"
            + " the MAN isn't looked at else). Long.MIN_VALUE: an ERROR, no such law, no such ones.");
        long none = Long.MIN_VALUE;
        ShadowTwin x = Check.told("her 2 2;sun 0 1 2;lamp l 2 3 9;man a 0 0;man b 0 1;law long far*100;law fond trod+40;law tired weary+50;");
        int[] men = {0, 1, 2, 3, 4, -1, Integer.MIN_VALUE, Integer.MAX_VALUE};
        for (int man : men) {
            Check.due("law(0, " + man + ")", x.law(0, man), 200);
            Check.due("law(1, " + man + ")", x.law(1, man), man == 0 || man == 1 ? 41 : none);
            Check.due("law(2, " + man + ")", x.law(2, man), 50);
            Check.due("law(3, " + man + ")", x.law(3, man), none);
            for (int what : BEYOND) {
                Check.due("law(" + what + ", " + man + ")", x.law(what, man), none);
            }
        }
        ShadowTwin bare = Check.told("man a 0 0;");
        for (int what = 0; what < 3; what++) {
            Check.due("no such law", bare.law(what, 0), none);
        }
        ShadowTwin errors = Check.told("man a 0 0;law long 1/0;law fond 1/0;law tired 1/0;");
        for (int what = 0; what < 3; what++) {
            Check.due("an error", errors.law(what, 0), none);
        }
        ShadowTwin wide = Check.told("man a 0 0;law long 8;law fond 100;law tired 0-1;");
        Check.due("not brought to 7", wide.law(0, 0), 8);
        Check.due("not brought to 99", wide.law(1, 0), 100);
        Check.due("not brought to 0", wide.law(2, 0), -1);
        ShadowTwin dark = Check.told("law long far+3;");
        Check.due("of none", dark.law(0, 0), 3);
    }

    private static void lawOnceMore() {
        Check.about("1 fond of a MAN, as if TROD once more;");
        ShadowTwin x = Check.told("room 1 2;sun 0 1 1;man a 0 0;man b 0 1;law fond met*1000+trod;");
        Check.due("the first time", x.law(1, 1), 1);
        x.go(1);
        Check.due("the second time", x.law(1, 1), 2);
        Check.due("who was met", x.law(1, 0), 1001);
        Check.due("nothing is changed by it", x.man(1, 3), 1);
        for (int i = 0; i < 10; i++) {
            x.go(99);
        }
        x.go(7);
        Check.due("the 999th time", x.law(1, 1), 999);
        x.go(1);
        Check.due("999 at most", x.law(1, 1), 999);
        Check.due("999 at most of met, too", x.law(1, 0), 999001);
    }

    private static void stepByCall() {
        Check.about("She steps a WAY 0 .. 3 now (as in (2)): how TIRED she is; -2: it would be REFUSED; NONE: no such WAY.");
        for (int way = 0; way < 4; way++) {
            ShadowTwin x = Check.told("her 2 2;");
            Check.due("step(" + way + ")", x.step(way), 1);
            Check.due("row", x.where(0), 2 + DOWN[way]);
            Check.due("column", x.where(1), 2 + RIGHT[way]);
            Check.due("to the border", x.step(way), 2);
            String before = Check.all(x);
            Check.due("out of the room", x.step(way), -2);
            Check.due("step(4)", x.step(4), -1);
            for (int beyond : BEYOND) {
                Check.due("step(" + beyond + ")", x.step(beyond), -1);
            }
            Check.same("nothing is changed", Check.all(x), before);
            ShadowTwin wall = Check.told("her 2 2;wall " + (2 + DOWN[way]) + " " + (2 + RIGHT[way]) + ";");
            before = Check.all(wall);
            Check.due("into a wall", wall.step(way), -2);
            Check.same("nothing is changed", Check.all(wall), before);
        }
        ShadowTwin tired = Check.told("law tired 8-(weary>0)*7;");
        Check.due("8", tired.step(1), 8);
        Check.due("less than 9", tired.step(1), 9);
        String before = Check.all(tired);
        Check.due("9", tired.step(1), -2);
        Check.same("nothing is changed", Check.all(tired), before);
        tired.undo();
        Check.due("8 again", tired.step(3), 9);
        Check.due("no such way, however tired", tired.step(4), -1);
        ShadowTwin hour = Check.told("law tired hour+1;");
        hour.go(2);
        Check.due("by the hour of now", hour.step(1), 3);
        Check.due("no hour goes by", hour.count(6), 2);
    }

    private static void lightByCall() {
        Check.about("A LAMP is LIT, or no more: true; false: no such LAMP, it is so.");
        ShadowTwin x = Check.told("lamp a 0 1 9;lamp b 0 2 9;lamp c 0 3 9;lamp d 0 4 9;");
        for (int lamp = 0; lamp < 4; lamp++) {
            String before = Check.all(x);
            Check.due("it is lit", x.light(lamp, true), false);
            Check.same("nothing is changed", Check.all(x), before);
            Check.due("no more", x.light(lamp, false), true);
            Check.due("how many are lit", x.count(11), 3 - lamp);
            Check.due("nor again", x.light(lamp, false), false);
            Check.due("what can be undone", x.count(14), lamp + 1);
        }
        Check.due("lit again", x.light(3, true), true);
        Check.due("that one", x.lamp(3, 3), 1);
        Check.due("no other", x.count(11), 1);
        String before = Check.all(x);
        for (int beyond : new int[] {4, 32, 35, -1, -32, Integer.MIN_VALUE, Integer.MAX_VALUE}) {
            Check.due("light(" + beyond + ", false)", x.light(beyond, false), false);
            Check.due("light(" + beyond + ", true)", x.light(beyond, true), false);
        }
        Check.same("nothing is changed", Check.all(x), before);
        Check.due("no such lamp", Check.told("lamp a 0 0 1;").light(1, false), false);
    }

    private static void againByCall() {
        Check.about("A DOING isn't DONE any more: true; false: no such DOING, it isn't.");
        ShadowTwin x = Check.told("doing a 0 0 0 1;doing b 0 0 0 2;doing c 0 0 0 4;doing d 0 0 0 8;doing e 0 0 0 16;"
            + "doing f 0 0 0 32;doing g 0 0 0 64;doing h 0 4 4 99;");
        for (int doing = 0; doing < 8; doing++) {
            Check.due("not done yet", x.again(doing), false);
        }
        Check.due("nothing to undo", x.count(14), 0);
        x.go(1);
        int worth = 127;
        for (int doing = 0; doing < 7; doing++) {
            Check.due("again(" + doing + ")", x.again(doing), true);
            worth -= 1 << doing;
            Check.due("worth", x.count(8), worth);
            Check.due("twice", x.again(doing), false);
            Check.due("what can be undone", x.count(14), doing + 1);
        }
        String before = Check.all(x);
        Check.due("never done", x.again(7), false);
        for (int beyond : new int[] {8, 32, -1, -32, Integer.MIN_VALUE, Integer.MAX_VALUE}) {
            Check.due("again(" + beyond + ")", x.again(beyond), false);
        }
        Check.same("nothing is changed", Check.all(x), before);
    }

    private static void goNumbers() {
        Check.about("So many HOURS (0 .. 99) go by: which one it is; NONE, and none does: no such number, behind 9900.");
        ShadowTwin x = Check.told("room 1 2;step 0 1;sun 0 3 1;cloud 50;lamp l 0 0 9;");
        String before = Check.all(x);
        Check.due("go(0)", x.go(0), 0);
        Check.due("go(100)", x.go(100), -1);
        for (int beyond : BEYOND) {
            Check.due("go(" + beyond + ")", x.go(beyond), -1);
        }
        Check.same("none does", Check.all(x), before);
        Check.due("go(1)", x.go(1), 1);
        Check.due("go(99)", x.go(99), 100);
        Check.due("go(98)", x.go(98), 198);
    }

    private static void goBehindTheLast() {
        Check.about("NONE, and none does: no such number, behind 9900.");
        ShadowTwin x = Check.told("room 1 8;sun 0 1 1;cloud 50;seed 4;");
        for (int i = 1; i < 100; i++) {
            Check.due("go(99)", x.go(99), 99 * i);
        }
        x.go(50);
        x.light(0, false);
        x.step(1);
        String before = Check.all(x);
        int[] behind = {50, 51, 99};
        for (int n : behind) {
            Check.due("from 9851, go(" + n + ")", x.go(n), -1);
        }
        Check.same("none does", Check.all(x), before);
        Check.due("what can be undone stays", x.undo(), 0);
        Check.due("go(48)", x.go(48), 9899);
        Check.due("go(2)", x.go(2), -1);
        Check.due("go(1)", x.go(1), 9900);
        Check.due("go(1)", x.go(1), -1);
        Check.due("go(0)", x.go(0), 9900);
        Check.due("the hour", x.count(6), 9900);
        Check.due("what comes behind it can be asked", x.ahead(99, 4), 99);
    }
}
