/** Promises 12 to 15 and 31 to 33: step, light, again, go (the HOUR), undo, keep, back. */
public final class CallTest {
    public static void main(String[] args) {
        step();
        light();
        again();
        goByNumbers();
        goSteps();
        goTired();
        goDoings();
        goMen();
        goLimits();
        goClouds();
        undo();
        undoAtMost();
        keepAndBack();
        Check.end();
    }

    private static void step() {
        ShadowTwin x = Check.told("room 2 3;her 0 0;wall 1 1;law tired weary+4;");
        Check.due("up and out", x.step(0), -2);
        Check.due("left and out", x.step(3), -2);
        Check.due("right", x.step(1), 4);
        Check.due("down into the wall", x.step(2), -2);
        Check.due("right again", x.step(1), 12);
        Check.due("her column", x.where(1), 2);
        Check.due("too tired", x.step(3), -2);
        Check.due("refused ones aren't counted", x.count(9), 0);
        Check.due("step(4)", x.step(4), -1);
        Check.due("step(-1)", x.step(-1), -1);
        Check.due("what can be undone", x.count(14), 2);
        ShadowTwin y = Check.told("room 1 8;law tired 100;");
        Check.due("9 at most", y.step(1), 9);
        ShadowTwin z = Check.told("room 1 8;law tired 0-1;");
        Check.due("0 at least", z.step(1), 0);
        ShadowTwin e = Check.told("room 1 8;law tired 1/0;");
        Check.due("1 with an error", e.step(1), 1);
        ShadowTwin w = Check.told("room 1 8;");
        Check.due("1 without", w.step(1), 1);
        ShadowTwin eight = Check.told("room 8 8;law tired 8;");
        Check.due("8", eight.step(2), 8);
        Check.due("less than 9", eight.step(2), 16);
        Check.due("no more", eight.step(2), -2);
    }

    private static void light() {
        ShadowTwin x = Check.told("lamp a 0 1 9;lamp b 0 2 9;");
        Check.due("it is lit", x.light(0, true), false);
        Check.due("out", x.light(0, false), true);
        Check.due("it is out", x.light(0, false), false);
        Check.due("the other one", x.lamp(1, 3), 1);
        Check.due("on", x.light(0, true), true);
        Check.due("lamp(0, 3)", x.lamp(0, 3), 1);
        Check.due("no such lamp", x.light(2, false), false);
        Check.due("no such lamp", x.light(-1, true), false);
        Check.due("what can be undone", x.count(14), 2);
    }

    private static void again() {
        ShadowTwin x = Check.told("doing a 0 0 0 3;doing b 0 4 4 5;");
        Check.due("not done", x.again(0), false);
        x.go(1);
        Check.due("done", x.again(0), true);
        Check.due("not any more", x.doing(0, 4), 0);
        Check.due("twice", x.again(0), false);
        Check.due("the other one", x.again(1), false);
        Check.due("no such doing", x.again(2), false);
        Check.due("no such doing", x.again(-1), false);
        x.go(1);
        Check.due("done again", x.doing(0, 4), 1);
    }

    private static void goByNumbers() {
        ShadowTwin x = new ShadowTwin();
        Check.due("go(0)", x.go(0), 0);
        Check.due("go(99)", x.go(99), 99);
        Check.due("go(100)", x.go(100), -1);
        Check.due("go(-1)", x.go(-1), -1);
        Check.due("none does", x.count(6), 99);
        for (int i = 2; i <= 100; i++) {
            Check.due("go on", x.go(99), 99 * i);
        }
        Check.due("behind 9900", x.go(1), -1);
        Check.due("at 9900", x.go(0), 9900);
        Check.due("ahead of 9900 all the same", x.ahead(99, 4), 99);
    }

    private static void goSteps() {
        ShadowTwin x = Check.told("room 3 3;her 1 1;wall 0 2;step 1 0;step 0 1;step 0 0;step 0 3;step 1 2;step 25 2;");
        x.go(1);
        Check.due("row after right, up (a wall), left", x.where(0), 1);
        Check.due("column after that", x.where(1), 1);
        Check.due("refused", x.count(9), 1);
        x.go(1);
        Check.due("row after up, down", x.where(0), 1);
        x.go(23);
        Check.due("steps are of an hour, not of the day's", x.where(0), 1);
        x.go(1);
        Check.due("hour 25", x.where(0), 2);
    }

    private static void goTired() {
        ShadowTwin x = Check.told("room 1 8;law tired 5;step 0 1;step 0 1;step 0 1;step 23 1;step 24 1;");
        x.go(1);
        Check.due("two steps", x.where(1), 2);
        Check.due("tired", x.where(5), 10);
        Check.due("refused", x.count(9), 1);
        x.go(22);
        Check.due("still tired", x.where(5), 10);
        x.go(1);
        Check.due("not any more", x.where(5), 0);
        Check.due("refused at 23", x.count(9), 2);
        x.go(1);
        Check.due("goes at 24", x.where(1), 3);
    }

    private static void goDoings() {
        ShadowTwin x = Check.told("room 1 4;sun 0 1 1;step 1 1;step 2 1;step 3 1;"
            + "doing hers 0 0 1 1;doing its 1 0 1 2;doing last 1 0 3 4;doing here 1 0 0 8;");
        x.go(1);
        Check.due("its at (0, 1)", x.doing(1, 4), 1);
        Check.due("hers not yet", x.doing(0, 4), 0);
        Check.due("worth", x.count(8), 2);
        x.go(1);
        Check.due("hers then", x.doing(0, 4), 1);
        x.go(2);
        Check.due("its in the last cell", x.doing(2, 4), 1);
        Check.due("never its", x.doing(3, 4), 0);
        Check.due("one at the border", x.count(10), 1);
        ShadowTwin one = Check.told("room 1 1;doing d 1 0 0 1;");
        one.go(9);
        Check.due("not if they are one", one.count(7), 0);
    }

    private static void goMen() {
        ShadowTwin x = Check.told("room 1 3;sun 0 1 1;man m 0 0;man n 0 1;man o 0 2;law fond met*50+trod;");
        x.go(2);
        Check.due("met", x.man(0, 2), 2);
        Check.due("not trod", x.man(0, 3), 0);
        Check.due("trod", x.man(1, 3), 2);
        Check.due("fond, this time, too", x.man(1, 4), 3);
        Check.due("neither", x.man(2, 2) + x.man(2, 3), 0);
        x.step(1);
        x.go(1);
        Check.due("met now", x.man(1, 2), 1);
        Check.due("the next is trod", x.man(2, 4), 1);
        x.step(3);
        x.go(1);
        Check.due("met counts", x.man(1, 4), 3 + 53);
    }

    private static void goLimits() {
        ShadowTwin x = Check.told("room 1 2;sun 0 1 1;man m 0 0;man n 0 1;");
        for (int i = 0; i < 11; i++) {
            x.go(99);
        }
        Check.due("met at most", x.man(0, 2), 999);
        Check.due("trod at most", x.man(1, 3), 999);
        Check.due("fond at most", x.man(1, 4), 999);
        Check.tell(x, "room 1 2;sun 0 1 1;man n 0 1;law fond 1000;");
        x.go(1);
        Check.due("99 at once", x.man(0, 4), 99);
        x.go(20);
        Check.due("999 in all", x.man(0, 4), 999);
        Check.due("and no more ahead", x.ahead(5, 3), 0);
        Check.tell(x, "room 1 2;sun 0 1 1;man n 0 1;law fond 0-4;");
        x.go(3);
        Check.due("0 at least", x.man(0, 4), 0);
        Check.tell(x, "room 1 2;sun 0 1 1;man n 0 1;law fond 1/0;");
        x.go(3);
        Check.due("1 with an error", x.man(0, 4), 3);
    }

    private static int cloudy(long seed, int cloud, int hours) {
        long number = seed;
        int clouds = 0;
        for (int i = 0; i < hours; i++) {
            number = Check.nextNumber(number);
            if (number / 65536 % 100 < cloud) {
                clouds++;
            }
        }
        return clouds;
    }

    private static void goClouds() {
        for (int cloud = 0; cloud <= 100; cloud += 20) {
            ShadowTwin x = Check.told("sun 3 1 1;cloud " + cloud + ";seed 99999;");
            x.go(50);
            Check.due("hours with clouds of " + cloud, x.count(10), cloudy(99999, cloud, 50));
            x.go(49);
            Check.due("one number behind another", x.count(10), cloudy(99999, cloud, 99));
        }
        ShadowTwin lampOnly = Check.told("her 0 1;lamp l 0 0 9;cloud 100;");
        lampOnly.go(9);
        Check.due("clouds don't touch lamps", lampOnly.count(10), 0);
    }

    private static void undo() {
        ShadowTwin x = Check.told("room 2 8;her 1 0;lamp l 0 7 9;doing d 0 1 0 1;law tired 4;");
        Check.due("nothing yet", x.undo(), -1);
        x.go(1);
        String before = Check.all(x);
        x.step(1);
        x.light(0, false);
        x.again(0);
        x.step(0);
        x.step(0);
        x.light(0, false);
        x.again(0);
        Check.due("only what changed", x.count(14), 4);
        Check.due("undo a step", x.undo(), 3);
        Check.due("her row", x.where(0), 1);
        Check.due("her column", x.where(1), 1);
        Check.due("tired", x.where(5), 4);
        Check.due("undo again", x.undo(), 2);
        Check.due("done", x.doing(0, 4), 1);
        Check.due("undo light", x.undo(), 1);
        Check.due("lit", x.lamp(0, 3), 1);
        Check.due("undo the first", x.undo(), 0);
        Check.same("all as before", Check.all(x), before);
        Check.due("none is left", x.undo(), -1);
        x.step(1);
        x.go(0);
        Check.due("no hour went by", x.count(14), 1);
        x.go(-1);
        x.go(100);
        Check.due("none did", x.count(14), 1);
        x.go(1);
        Check.due("an hour went by", x.undo(), -1);
    }

    private static void undoAtMost() {
        ShadowTwin x = Check.told("lamp l 0 0 1;lamp k 0 0 1;");
        x.light(1, false);
        for (int i = 0; i < 21; i++) {
            x.light(0, i % 2 == 1);
        }
        Check.due("20 at most", x.count(14), 20);
        for (int i = 19; i >= 0; i--) {
            Check.due("the latest first", x.undo(), i);
        }
        Check.due("no more", x.undo(), -1);
        Check.due("the lamp of the 21 has its second state", x.lamp(0, 3), 0);
        Check.due("the first call stays", x.lamp(1, 3), 0);
    }

    private static void keepAndBack() {
        ShadowTwin x = Check.told("room 1 4;sun 0 1 1;cloud 30;seed 3;lamp l 0 3 9;step 0 1;step 3 3;step 4 0;doing d 1 0 2 4;man m 0 2;");
        Check.due("no image", x.back(), -1);
        x.go(2);
        x.step(1);
        Check.due("keep", x.keep(), 2);
        Check.due("keeping undoes nothing", x.count(14), 1);
        x.go(10);
        String then = Check.all(x);
        x.light(0, false);
        x.again(0);
        Check.due("back", x.back(), 2);
        Check.due("nothing to undo", x.undo(), -1);
        x.go(10);
        Check.same("the same clouds", Check.all(x), then);
        Check.due("back once more", x.back(), 2);
        x.go(5);
        Check.due("keep in place of it", x.keep(), 7);
        x.go(1);
        Check.due("back to that", x.back(), 7);
        x.see(1, 0, 0, 0, true);
        x.back();
        Check.due("what was seen stays", x.count(12), 1);
        x.keep();
        Check.tell(x, "seed !;");
        Check.due("a text that fails leaves it", x.back(), 7);
        x.text(0);
        Check.due("a text ends it", x.back(), -1);
        Check.tell(x, "sun 0 1 1;cloud 50;seed 3;");
        x.go(5);
        x.keep();
        for (int i = 0; i < 3; i++) {
            x.go(20 + i);
            x.back();
            Check.due("clouds as of the image", x.go(30), 35);
            Check.due("hours as one", x.count(10), cloudy(3, 50, 35));
            x.back();
        }
    }
}
