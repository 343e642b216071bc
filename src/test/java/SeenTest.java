/** Promises 25 to 28: see, out, known, homes. */
public final class SeenTest {
    public static void main(String[] args) {
        see();
        out();
        known();
        strikes();
        homesOfHers();
        homesOfIts();
        homesElse();
        Check.end();
    }

    private static void see() {
        ShadowTwin x = Check.told("room 2 3;wall 1 1;");
        Check.due("the first", x.see(1, 0, 0, 0, true), 0);
        Check.due("the second", x.see(40, 1, 1, 2, false), 1);
        Check.due("in a wall", x.see(3, 1, 1, 1, false), 2);
        Check.due("hours 0", x.see(0, 0, 0, 0, true), -1);
        Check.due("hours 41", x.see(41, 0, 0, 0, true), -1);
        Check.due("who 2", x.see(1, 2, 0, 0, true), -1);
        Check.due("who -1", x.see(1, -1, 0, 0, true), -1);
        Check.due("row 2", x.see(1, 0, 2, 0, true), -1);
        Check.due("row -1", x.see(1, 0, -1, 0, true), -1);
        Check.due("column 3", x.see(1, 0, 0, 3, true), -1);
        Check.due("column -1", x.see(1, 0, 0, -1, true), -1);
        for (int i = 3; i < 24; i++) {
            Check.due("the next", x.see(1, 0, 0, 0, true), i);
        }
        Check.due("there are 24", x.see(1, 0, 0, 0, true), -1);
        Check.due("also for those that strike", x.out(0), -1);
        Check.due("seen", x.count(12), 24);
    }

    private static void out() {
        ShadowTwin x = new ShadowTwin();
        Check.due("none is seen", x.out(0), -1);
        x.see(1, 0, 0, 0, true);
        Check.due("strikes the first", x.out(0), 1);
        Check.due("strikes what strikes", x.out(1), 2);
        Check.due("not itself", x.out(3), -1);
        Check.due("out(-1)", x.out(-1), -1);
        Check.due("seen", x.count(12), 3);
    }

    private static void known() {
        ShadowTwin x = Check.told("room 1 3;");
        Check.due("by all of none", x.count(13), 0);
        Check.due("known(1) of none", x.known(1), false);
        x.see(1, 0, 0, 0, false);
        x.see(1, 0, 0, 1, false);
        Check.due("by all", x.count(13), 2);
        Check.due("homes by all", x.homes(0), 1);
        Check.due("known(1)", x.known(1), true);
        Check.due("by one", x.count(13), 1);
        Check.due("homes by one", x.homes(0), 2);
        x.see(1, 0, 0, 2, false);
        Check.due("not by those to come", x.homes(0), 2);
        Check.due("known(3)", x.known(3), true);
        Check.due("homes by three", x.homes(0), 0);
        Check.due("known(4)", x.known(4), false);
        Check.due("known(-2)", x.known(-2), false);
        Check.due("it stays", x.count(13), 3);
        x.known(-1);
        x.out(2);
        Check.due("also by those to come", x.count(13), 4);
        Check.due("homes by these", x.homes(0), 1);
        x.known(0);
        Check.due("by none", x.homes(0), 3);
    }

    private static void strikes() {
        ShadowTwin x = Check.told("room 1 2;");
        x.see(1, 0, 0, 0, false);
        Check.due("seen", x.homes(1), 1);
        x.out(0);
        Check.due("struck", x.homes(1), 0);
        x.out(1);
        Check.due("what strikes is struck", x.homes(1), 1);
        x.out(2);
        Check.due("struck after all", x.homes(1), 0);
        x.out(0);
        Check.due("struck twice", x.homes(1), 0);
        x.out(1);
        Check.due("still by the other", x.homes(1), 0);
        x.out(4);
        Check.due("by none any more", x.homes(1), 1);
        int[] due = {0, 1, 0, 1, 0, 0, 0, 1};
        for (int n = 0; n < due.length; n++) {
            x.known(n);
            Check.due("by the first " + n, x.homes(1), due[n]);
        }
    }

    private static void homesOfHers() {
        ShadowTwin x = Check.told("room 2 3;her 0 0;wall 1 1;step 0 1;step 2 2;law tired 0;");
        Check.due("all that are no wall", x.homes(0), 5);
        Check.due("the first one", x.homes(1), 0);
        x.see(1, 0, 0, 2, true);
        Check.due("from (0, 1) or (0, 2)", x.homes(0), 2);
        Check.due("the first one of these", x.homes(1), 1);
        x.see(3, 0, 1, 2, true);
        Check.due("both go down", x.homes(0), 2);
        x.see(2, 0, 1, 2, false);
        Check.due("not earlier", x.homes(0), 2);
        x.see(40, 0, 0, 0, true);
        Check.due("from nowhere", x.homes(0), 0);
        Check.due("no first one", x.homes(1), -2);
        ShadowTwin y = Check.told("room 2 3;her 0 0;wall 1 1;step 0 1;");
        y.see(1, 0, 1, 0, true);
        Check.due("a wall stops her", y.homes(1), 10);
        y.go(5);
        y.step(1);
        y.light(0, false);
        Check.due("from the text on, whatever is now", y.homes(1), 10);
    }

    private static void homesOfIts() {
        ShadowTwin x = Check.told("room 1 4;sun 0 1 1;sun 1 3 1;cloud 49;");
        x.see(1, 1, 0, 2, true);
        Check.due("where it fell in that hour", x.homes(1), 1);
        Check.due("only from there", x.homes(0), 1);
        x.out(0);
        x.see(2, 1, 0, 2, true);
        Check.due("where it fell in the second hour", x.homes(1), 3);
        x.out(2);
        x.see(1, 1, 0, 3, true);
        Check.due("one: it is where she is", x.homes(0), 2);
        x.see(1, 0, 0, 3, true);
        Check.due("with her", x.homes(1), 3);
        ShadowTwin clouds = Check.told("room 1 4;sun 0 1 1;cloud 50;");
        clouds.see(1, 1, 0, 2, true);
        Check.due("as it goes there are clouds", clouds.homes(1), 2);
        ShadowTwin lamps = Check.told("room 1 4;lamp l 0 0 9;law long 1;");
        lamps.light(0, false);
        lamps.see(1, 1, 0, 2, true);
        Check.due("all lamps are lit at first", lamps.homes(1), 1);
    }

    private static void homesElse() {
        ShadowTwin x = new ShadowTwin();
        Check.due("homes(2)", x.homes(2), -1);
        Check.due("homes(-1)", x.homes(-1), -1);
        ShadowTwin tired = Check.told("room 1 8;step 0 1;step 1 1;step 2 1;law tired 5;");
        tired.see(3, 0, 0, 2, true);
        Check.due("two steps, then she is tired", tired.homes(1), 0);
        Check.due("only from there", tired.homes(0), 1);
    }
}
