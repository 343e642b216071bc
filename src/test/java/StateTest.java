/** Promises 6 to 11 and 34: where (the LIGHT), doing, man, lamp, wall, law, count. */
public final class StateTest {
    public static void main(String[] args) {
        whereBySun();
        whereByHoursOfTheDay();
        whereByClouds();
        whereByLamp();
        whereByLaw();
        whereElse();
        doing();
        man();
        lamp();
        wall();
        lawValues();
        lawErrors();
        lawNames();
        lawElse();
        count();
        Check.end();
    }

    private static void it(String text, int row, int column, int one) {
        it(text, Check.told(text), row, column, one);
    }

    private static void it(String what, ShadowTwin x, int row, int column, int one) {
        Check.due(what + ": its row", x.where(2), row);
        Check.due(what + ": its column", x.where(3), column);
        Check.due(what + ": one", x.where(4), one);
    }

    private static void whereBySun() {
        it("her 2 2;sun 0 0 1;", 1, 2, 0);
        it("her 2 2;sun 0 1 1;", 2, 3, 0);
        it("her 2 2;sun 0 2 1;", 3, 2, 0);
        it("her 2 2;sun 0 3 1;", 2, 1, 0);
        it("her 2 2;sun 0 3 2;", 2, 0, 0);
        it("her 2 2;sun 0 3 7;", 2, 0, 0);
        it("her 2 2;sun 0 2 7;", 4, 2, 0);
        it("room 1 8;her 0 6;sun 0 1 7;", 0, 7, 0);
        it("room 1 8;her 0 7;sun 0 1 7;", 0, 7, 1);
        it("room 1 8;her 0 0;sun 0 0 3;", 0, 0, 1);
        it("her 2 2;wall 2 3;sun 0 1 2;", 2, 4, 0);
        it("her 2 2;wall 2 3;sun 0 1 1;", 2, 3, 0);
        it("her 2 2;", 2, 2, 1);
    }

    private static void whereByHoursOfTheDay() {
        ShadowTwin x = Check.told("her 2 2;sun 20 1 1;sun 6 3 1;sun 9 2 1;");
        it("hour 0 is of the sun of 20", x, 2, 3, 0);
        x.go(5);
        it("hour 5", x, 2, 3, 0);
        x.go(1);
        it("hour 6", x, 2, 1, 0);
        x.go(2);
        it("hour 8", x, 2, 1, 0);
        x.go(1);
        it("hour 9", x, 3, 2, 0);
        x.go(10);
        it("hour 19", x, 3, 2, 0);
        x.go(1);
        it("hour 20", x, 2, 3, 0);
        x.go(9);
        it("hour 29", x, 2, 3, 0);
        x.go(1);
        it("hour 30 is hour 6 of the day", x, 2, 1, 0);
        ShadowTwin one = Check.told("her 2 2;sun 13 0 2;");
        it("one sun shines all day", one, 0, 2, 0);
    }

    private static void whereByClouds() {
        it("her 2 2;sun 0 1 1;cloud 49;", 2, 3, 0);
        it("her 2 2;sun 0 1 1;cloud 50;", 2, 2, 1);
        it("her 2 2;sun 0 1 1;cloud 100;", 2, 2, 1);
        it("her 2 2;sun 0 1 1;cloud 50;lamp l 2 3 9;", 2, 1, 0);
        it("her 2 2;sun 0 1 0;lamp l 2 3 9;", 2, 1, 0);
        it("her 2 2;sun 0 1 1;lamp l 2 3 9;", 2, 3, 0);
    }

    private static void whereByLamp() {
        it("her 2 2;lamp l 1 1 9;", 4, 2, 0);
        it("her 2 2;lamp l 3 3 9;", 0, 2, 0);
        it("her 2 2;lamp l 1 2 9;", 3, 2, 0);
        it("her 2 2;lamp l 2 1 9;", 2, 3, 0);
        it("her 2 2;lamp l 1 0 9;", 2, 4, 0);
        it("her 2 2;lamp l 3 4 9;", 2, 0, 0);
        it("her 2 2;lamp l 4 3 9;", 0, 2, 0);
        it("her 2 2;lamp l 4 3 3;", 0, 2, 0);
        it("her 2 2;lamp l 4 3 2;", 2, 2, 1);
        it("her 2 2;lamp l 2 2 9;", 2, 2, 1);
        it("her 2 2;lamp l 2 2 9;law long 2;", 2, 2, 1);
        it("her 4 2;lamp l 3 2 9;", 4, 2, 1);
        it("room 8 8;her 0 3;lamp a 0 1 9;lamp b 0 5 9;", 0, 5, 0);
        it("room 8 8;her 0 3;lamp b 0 5 9;lamp a 0 1 9;", 0, 1, 0);
        it("room 8 8;her 0 3;lamp a 0 0 9;lamp b 0 4 9;", 0, 2, 0);
        it("room 8 8;her 0 3;lamp a 0 1 1;lamp b 0 7 9;", 0, 0, 0);
        ShadowTwin x = Check.told("room 1 8;her 0 3;lamp a 0 1 9;lamp b 0 5 9;");
        x.light(0, false);
        it("a lamp that isn't lit", x, 0, 1, 0);
        x.light(1, false);
        it("no lamp is lit", x, 0, 3, 1);
    }

    private static void whereByLaw() {
        it("room 1 8;her 0 0;sun 0 1 3;law long far+1;", 0, 4, 0);
        it("room 1 8;her 0 0;sun 0 1 3;law long 0;", 0, 0, 1);
        it("room 1 8;her 0 0;sun 0 1 3;law long 0-3;", 0, 0, 1);
        it("room 1 8;her 0 0;sun 0 1 3;law long 100;", 0, 7, 0);
        it("room 1 8;her 0 0;sun 0 1 3;law long 1/0;", 0, 3, 0);
        it("room 1 8;her 0 2;lamp l 0 0 9;law long 1/0;", 0, 4, 0);
        it("room 1 8;her 0 2;lamp l 0 0 9;law long far*2;", 0, 6, 0);
        it("room 1 8;her 0 2;lamp l 0 0 9;lamp k 0 7 9;law long lit+3;", 0, 7, 0);
        it("room 1 8;her 0 2;law long 3;", 0, 2, 1);
        it("room 1 8;her 0 0;sun 0 1 3;man m 0 0;law long met+trod+2;", 0, 2, 0);
        ShadowTwin met = Check.told("room 1 8;sun 0 1 3;man m 0 0;man n 0 2;law long met+trod+2;law tired met+trod+3;");
        met.go(3);
        it("long knows of no man", met, 0, 2, 0);
        Check.due("long of no man", met.law(0, 0), 2);
        Check.due("tired of no man", met.law(2, 0), 3);
        Check.due("tired by a step", met.step(1), 3);
    }

    private static void whereElse() {
        ShadowTwin x = Check.told("room 3 4;her 1 2;step 0 1;step 1 0;law tired 3;");
        Check.due("her row", x.where(0), 1);
        Check.due("her column", x.where(1), 2);
        Check.due("tired", x.where(5), 0);
        x.go(2);
        Check.due("her row then", x.where(0), 0);
        Check.due("her column then", x.where(1), 3);
        Check.due("tired then", x.where(5), 6);
        Check.due("where(6)", x.where(6), -1);
        Check.due("where(-1)", x.where(-1), -1);
        Check.due("where(least)", x.where(Integer.MIN_VALUE), -1);
    }

    private static void doing() {
        ShadowTwin x = Check.told("her 0 0;doing a 1 2 3 44;doing b 0 0 0 9;");
        int[] first = {1, 2, 3, 44, 0};
        for (int what = 0; what < 5; what++) {
            Check.due("doing(0, " + what + ")", x.doing(0, what), first[what]);
        }
        Check.due("not done", x.doing(1, 4), 0);
        x.go(1);
        Check.due("done", x.doing(1, 4), 1);
        Check.due("still not done", x.doing(0, 4), 0);
        Check.same("doing(2, 0)", Check.thrown(x, 2, 0), "IndexOutOfBoundsException");
        Check.same("doing(-1, 0)", Check.thrown(x, -1, 0), "IndexOutOfBoundsException");
        Check.same("doing(2, 9)", Check.thrown(x, 2, 9), "IndexOutOfBoundsException");
        Check.same("doing(0, 5)", Check.thrown(x, 0, 5), "NoSuchElementException");
        Check.same("doing(0, -1)", Check.thrown(x, 0, -1), "NoSuchElementException");
        Check.same("doing of none", Check.thrown(new ShadowTwin(), 0, 0), "IndexOutOfBoundsException");
    }

    private static void man() {
        ShadowTwin x = Check.told("room 1 4;her 0 0;sun 0 1 1;step 2 1;man a 0 0;man b 0 1;man c 0 3;law fond trod*10;");
        x.go(3);
        int[][] due = {{0, 0, 2, 0, 0, 0}, {0, 1, 1, 2, 30, 1}, {0, 3, 0, 0, 0, -2}};
        for (int man = 0; man < 3; man++) {
            for (int what = 0; what < 6; what++) {
                Check.due("man(" + man + ", " + what + ")", x.man(man, what), due[man][what]);
            }
        }
        Check.due("man(3, 0)", x.man(3, 0), -1);
        Check.due("man(-1, 0)", x.man(-1, 0), -1);
        Check.due("man(0, 6)", x.man(0, 6), -1);
        Check.due("man(0, -1)", x.man(0, -1), -1);
        x.go(0);
        ShadowTwin even = Check.told("room 1 2;her 0 0;sun 0 1 1;step 1 1;man m 0 1;");
        even.go(2);
        Check.due("met", even.man(0, 2), 1);
        Check.due("trod", even.man(0, 3), 1);
        Check.due("engaged to none", even.man(0, 5), -2);
    }

    private static void lamp() {
        ShadowTwin x = Check.told("lamp a 1 2 3;lamp b 4 0 9;");
        int[][] due = {{1, 2, 3, 1}, {4, 0, 9, 0}};
        x.light(1, false);
        for (int lamp = 0; lamp < 2; lamp++) {
            for (int what = 0; what < 4; what++) {
                Check.due("lamp(" + lamp + ", " + what + ")", x.lamp(lamp, what), due[lamp][what]);
            }
        }
        Check.due("lamp(2, 0)", x.lamp(2, 0), -1);
        Check.due("lamp(-1, 0)", x.lamp(-1, 0), -1);
        Check.due("lamp(0, 4)", x.lamp(0, 4), -1);
        Check.due("lamp(0, -1)", x.lamp(0, -1), -1);
    }

    private static void wall() {
        ShadowTwin x = Check.told("room 2 3;wall 0 1;wall 1 2;");
        Check.due("wall(0, 1)", x.wall(0, 1), 1);
        Check.due("wall(1, 2)", x.wall(1, 2), 1);
        Check.due("wall(1, 1)", x.wall(1, 1), 0);
        Check.due("wall(2, 0)", x.wall(2, 0), -1);
        Check.due("wall(0, 3)", x.wall(0, 3), -1);
        Check.due("wall(-1, 0)", x.wall(-1, 0), -1);
        Check.due("wall(0, -1)", x.wall(0, -1), -1);
        Check.tell(x, "room 2 3;");
        Check.due("no walls of an earlier text", x.wall(0, 1), 0);
    }

    private static void value(String e, long due) {
        Check.due(e, Check.told("law tired " + e + ";").law(2, 0), due);
    }

    private static void lawValues() {
        value("7", 7);
        value("2+3*4", 14);
        value("(2+3)*4", 20);
        value("10-3-2", 5);
        value("10-(3-2)", 9);
        value("100/10/2", 5);
        value("100/(10/2)", 20);
        value("7/2", 3);
        value("(0-7)/2", -3);
        value("7/(0-2)", -3);
        value("(0-7)/(0-2)", 3);
        value("0-5", -5);
        value("2<3", 1);
        value("3<2", 0);
        value("3<3", 0);
        value("3<=3", 1);
        value("4<=3", 0);
        value("3=3", 1);
        value("3=4", 0);
        value("3<>4", 1);
        value("3<>3", 0);
        value("3>=3", 1);
        value("2>=3", 0);
        value("3>2", 1);
        value("3>3", 0);
        value("2+3<2*3", 1);
        value("5 and 3", 1);
        value("5 and 0", 0);
        value("0 and 5", 0);
        value("1 and 1", 1);
        value("1 or 1", 1);
        value("9 or 0", 1);
        value("0 or 9", 1);
        value("0 or 0", 0);
        value("1 or 0 and 0", 1);
        value("(1 or 0) and 0", 0);
        value("not 5", 0);
        value("not 0", 1);
        value("not not 5", 1);
        value("not 0=1", 1);
        value("(not 0)=1", 1);
        value("not 1 or 1", 1);
        value("not(1 or 1)", 0);
        value("not 0 and 0", 0);
        value("(2<3)+(3<4)+5", 7);
    }

    private static void lawErrors() {
        long error = Long.MIN_VALUE;
        long limit = 1000000000000L;
        value("1000*1000*1000*1000", limit);
        value("1000*1000*1000*1000+1", error);
        value("0-1000*1000*1000*1000", -limit);
        value("0-1000*1000*1000*1000-1", error);
        value("1000*1000*1000*1001", error);
        value("(1000*1000*1000*1000)*(1000*1000*1000*1000)", error);
        value("(0-1000*1000*1000*1000)*(1000*1000*1000*1000)", error);
        value("(1000*1000*1000*1000)*(0-1)", -limit);
        value("(1000*1000*1000*1000+1)-1", error);
        value("5/0", error);
        value("0/0", error);
        value("1/(3-3)", error);
        value("0*(1/0)", error);
        value("1 or 1/0", error);
        value("0 and 1/0", error);
        value("not 1/0", error);
    }

    private static void lawNames() {
        String names = "law long far*1000+met+trod+lit*100+hour;law tired far+met+trod+done*100+weary*10+lit;"
            + "law fond far+met*100+trod*10+hour;";
        ShadowTwin x = Check.told("room 1 5;sun 0 1 3;lamp l 0 4 9;lamp k 0 3 9;doing d 0 0 1 1;man m 0 4;step 0 1;" + names);
        Check.due("long", x.law(0, 0), 3200);
        Check.due("fond", x.law(1, 0), 10);
        Check.due("tired", x.law(2, 0), 2);
        x.go(1);
        Check.due("long then", x.law(0, 0), 3201);
        Check.due("fond as if trod once more", x.law(1, 0), 21);
        Check.due("tired then", x.law(2, 0), 100 + 20 + 2);
        Check.due("fond of once", x.man(0, 4), 10);
        x.light(0, false);
        Check.due("lit", x.law(2, 0), 100 + 20 + 1);
        ShadowTwin dark = Check.told("room 1 5;lamp l 0 3 9;law long far*10;");
        Check.due("how far the lamp is", dark.law(0, 0), 30);
        dark.light(0, false);
        Check.due("far 0 of none", dark.law(0, 0), 0);
    }

    private static void lawElse() {
        ShadowTwin x = Check.told("man m 0 0;law fond 5;");
        long none = Long.MIN_VALUE;
        Check.due("no such law", x.law(0, 0), none);
        Check.due("no such law", x.law(2, 0), none);
        Check.due("no such what", x.law(3, 0), none);
        Check.due("no such what", x.law(-1, 0), none);
        Check.due("no such man", x.law(1, 1), none);
        Check.due("no such man", x.law(1, -1), none);
        Check.due("such a man", x.law(1, 0), 5);
        Check.due("the man isn't looked at", Check.told("law tired 4;").law(2, 77), 4);
        Check.due("not bounded", Check.told("law tired 44;").law(2, 0), 44);
    }

    private static void count() {
        ShadowTwin x = Check.told("room 2 7;her 0 1;wall 1 1;lamp a 0 0 9;lamp b 1 6 1;lamp c 1 6 1;doing t 0 0 1 5;doing u 0 0 0 7;"
            + "doing v 1 1 6 9;man m 0 0;man n 0 0;step 0 0;step 0 2;law long 2*far;");
        x.go(2);
        x.see(1, 0, 0, 0, true);
        x.see(1, 0, 0, 0, true);
        x.out(0);
        x.light(1, false);
        x.step(3);
        int[] due = {3, 3, 2, 2, 7, 3, 2, 1, 5, 2, 0, 2, 3, 3, 2};
        for (int what = 0; what < due.length; what++) {
            Check.due("count(" + what + ")", x.count(what), due[what]);
        }
        x.go(1);
        Check.due("done", x.count(7), 2);
        Check.due("their worth", x.count(8), 12);
        Check.due("hours as one", x.count(10), 1);
        x.known(1);
        Check.due("known by", x.count(13), 1);
        Check.due("count(15)", x.count(15), -1);
        Check.due("count(-1)", x.count(-1), -1);
    }
}
