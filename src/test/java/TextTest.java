/** Promises 1 to 5: a new object, feed, text, fault, named. */
public final class TextTest {
    public static void main(String[] args) {
        newObject();
        feed();
        text();
        textThatFails();
        textStartsAnew();
        faultsOfTokens();
        faultsOfLines();
        faultsOfTooMany();
        faultsOfLaws();
        knots();
        faultItself();
        named();
        Check.end();
    }

    private static void newObject() {
        ShadowTwin x = new ShadowTwin();
        int[] counts = {0, 0, 0, 5, 5, 0, 0, 0, 0, 0, 0, 0, 0, 0, 0};
        for (int what = 0; what < counts.length; what++) {
            Check.due("new: count(" + what + ")", x.count(what), counts[what]);
        }
        int[] wheres = {0, 0, 0, 0, 1, 0};
        for (int what = 0; what < wheres.length; what++) {
            Check.due("new: where(" + what + ")", x.where(what), wheres[what]);
        }
        Check.due("new: text(1)", x.text(1), -2);
        Check.due("new: undo()", x.undo(), -1);
        Check.due("new: back()", x.back(), -1);
        Check.due("new: fault(0)", x.fault(0), 0);
        Check.due("new: fault(1)", x.fault(1), -1);
        x.see(1, 0, 0, 0, true);
        Check.due("new: all are known", x.count(13), 1);
    }

    private static void feed() {
        ShadowTwin x = new ShadowTwin();
        int blanks = 0x20202020;
        Check.due("feed, the highest byte first", x.feed(0x73656564, 0x20373b20, blanks, blanks, blanks), 20);
        Check.due("seed 7;", x.text(7), 1);
        for (int i = 1; i <= 35; i++) {
            Check.due("feed " + i, x.feed(blanks, blanks, blanks, blanks, blanks), 20 * i);
        }
        Check.due("feed beyond 700", x.feed(blanks, blanks, blanks, blanks, blanks), -1);
        Check.due("text(701)", x.text(701), -2);
        Check.due("text(700) of blanks", x.text(700), 0);
        Check.due("feed behind text", x.feed(blanks, blanks, blanks, blanks, blanks), 20);
        ShadowTwin y = new ShadowTwin();
        y.feed(0x726f6f6d, 0x20312032, 0x3b6865ff, 0, -1);
        Check.due("bytes below 0", y.text(20), -1);
        Check.due("at 9", y.fault(1), 9);
        y.feed(0x726f6f6d, 0x20312032, 0x3b20ff00, 0, -1);
        Check.due("byte 255", y.text(20), -1);
        Check.due("at 10", y.fault(1), 10);
    }

    private static void text() {
        ShadowTwin x = new ShadowTwin();
        Check.due("text(-1)", x.text(-1), -2);
        Check.feed(x, "room 2 3;seed 5;her 1 2;");
        Check.due("more than there is", x.text(41), -2);
        Check.due("the tape stays", x.feed(0, 0, 0, 0, 0), 60);
        Check.due("only the first bytes", x.text(16), 2);
        Check.due("rows", x.count(3), 2);
        Check.due("her row isn't told", x.where(0), 0);
        Check.due("the tape is empty", x.text(1), -2);
        Check.due("text without lines", x.text(0), 0);
        Check.due("rows without room", x.count(3), 5);
        Check.due("blanks", Check.tell(x, " \n room\n2 3 \n;\nher\n1\n2\n; \n"), 2);
        Check.due("her column", x.where(1), 2);
        Check.due("no blanks needed", Check.tell(x, "room2 3;lamp l1 2 9;law long(far)+lit*2;"), 3);
        Check.due("lamp row", x.lamp(0, 0), 1);
        Check.due("digits in a row", Check.tell(x, "seed 000000000000000000012;"), 1);
    }

    private static String full() {
        return "room 3 4;her 1 1;wall 0 1;sun 6 1 2;sun 18 0 0;lamp l 1 0 3;lamp k 2 3 9;step 0 1;step 2 1;step 2 1;step 7 3;"
            + "doing tea 0 1 2 5;doing wet 1 1 3 9;man tom 1 3;man tim 1 2;cloud 0;seed 1;law fond trod+1;";
    }

    private static ShadowTwin lived() {
        ShadowTwin x = Check.told(full());
        x.go(3);
        x.keep();
        x.light(1, false);
        x.again(0);
        x.see(2, 0, 1, 2, true);
        x.see(2, 1, 1, 3, false);
        x.known(1);
        return x;
    }

    private static void textThatFails() {
        ShadowTwin x = lived();
        String before = Check.all(x);
        Check.due("a text with a fault", Check.tell(x, "room 1 1;sun 25 1 1;"), -1);
        Check.same("all stays", Check.all(x), before);
        Check.due("the tape doesn't", x.text(1), -2);
        Check.due("undo stays", x.undo(), 1);
        Check.due("the image stays", x.back(), 3);
    }

    private static void textStartsAnew() {
        ShadowTwin x = lived();
        Check.due("the same text again", Check.tell(x, full()), 18);
        Check.same("all is as at first", Check.all(x), Check.all(Check.told(full())));
        Check.due("nothing to undo", x.undo(), -1);
        Check.due("no image", x.back(), -1);
        Check.tell(x, "sun 0 1 1;cloud 50;seed 7;");
        x.go(40);
        int ones = x.count(10);
        Check.tell(x, "sun 0 1 1;cloud 50;seed 7;");
        x.go(40);
        Check.due("numbers from the seed", x.count(10), ones);
        nothingIsLeft("her 1 1;wall 0 0;wall 0 1;wall 3 3;sun 0 1 1;lamp l 0 0 9;step 0 2;step 1 2;doing d 0 0 0 9;man m 0 0;law tired 5;law long 1;");
        nothingIsLeft("room 8 2;cloud 60;seed 77;sun 4 1 1;law fond 1;");
    }

    /** A text is read where one before the latest stood, so two come behind it. */
    private static void nothingIsLeft(String text) {
        ShadowTwin x = Check.told(text);
        x.text(0);
        for (int i = 0; i < 2; i++) {
            Check.due("nothing is left of a text", x.text(0), 0);
            Check.same("as new", Check.all(x), Check.all(new ShadowTwin()));
            Check.due("no steps", x.ahead(9, 2), 0);
            Check.due("her may be told", Check.tell(x, "her 1 1;"), 1);
            x.go(9);
            Check.due("no steps", x.where(0), 1);
            Check.due("the laws may be told", Check.tell(x, "law long 2;law fond 2;law tired 2;"), 3);
            Check.due("no tiredness", x.step(1), 2);
            String clouds = "sun 0 1 1;cloud 50;";
            Check.tell(x, clouds);
            x.go(60);
            ShadowTwin other = Check.told(clouds + "seed 0;");
            other.go(60);
            Check.due("the seed is 0 without", x.count(10), other.count(10));
            x.text(0);
        }
    }

    private static void faultsOfTokens() {
        Check.fault("room", 1, 4);
        Check.fault("room ", 1, 5);
        Check.fault("room 3", 1, 6);
        Check.fault("room 3 4", 1, 8);
        Check.fault("room 3 4 \n", 1, 10);
        Check.fault(";", 1, 0);
        Check.fault("seed 1;;", 1, 7);
        Check.fault("Seed 1;", 1, 0);
        Check.fault("seed\t1;", 1, 4);
        Check.fault("seed 1!;", 1, 6);
        Check.fault("seed 1 1;", 1, 7);
        Check.fault("seed x;", 1, 5);
        Check.fault("seed;", 1, 4);
        Check.fault("7;", 1, 0);
        Check.fault("lamps a 0 0 1;", 1, 0);
        Check.fault("tired 1;", 1, 0);
        Check.fine("lamp abcdef 0 0 1;");
        Check.fault("lamp abcdefg 0 0 1;", 1, 5);
        Check.fault("lamp sun 0 0 1;", 1, 5);
        Check.fault("lamp hour 0 0 1;", 1, 5);
        Check.fault("lamp 1 0 0 1;", 1, 5);
        Check.fault("man m a 0;", 1, 6);
        Check.fault("doing d 0 0 0;", 1, 13);
        Check.fault("sun 0 0;", 1, 7);
        // the first one along the text, whatever comes behind
        Check.fault("sun 24 0 !;", 2, 4);
        Check.fault("sun 0 ! 9;", 1, 6);
    }

    private static void faultsOfLines() {
        Check.fine("room 1 8;");
        Check.fine("room 8 1;her 7 0;");
        Check.fault("room 0 1;", 2, 5);
        Check.fault("room 8 9;", 2, 7);
        Check.fault("room 8 0;", 2, 7);
        Check.fault("seed 1;room 1 1;", 1, 7);
        Check.fault("room 1 1;room 1 1;", 1, 9);
        Check.fault("room 2 3;her 2 0;", 2, 13);
        Check.fault("room 2 3;her 0 3;", 2, 15);
        Check.fine("room 2 3;her 1 2;");
        Check.fault("her 0 0;her 0 0;", 3, 8);
        Check.fault("wall 1 1;her 0 0;", 1, 9);
        Check.fault("her 0 0;wall 1 1;her 0 0;", 1, 17);
        Check.fault("wall 0 0;", 5, 7);
        Check.fine("her 1 1;wall 0 0;");
        Check.fault("her 1 1;wall 1 1;", 5, 15);
        Check.fault("wall 1 1;wall 1 1;", 5, 16);
        Check.fault("wall 5 0;", 2, 5);
        Check.fault("wall 0 5;", 2, 7);
        Check.fine("sun 0 0 0;sun 23 3 7;");
        Check.fault("sun 24 0 0;", 2, 4);
        Check.fault("sun 0 4 0;", 2, 6);
        Check.fault("sun 0 0 8;", 2, 8);
        Check.fault("sun 5 1 1;sun 5 1 1;", 3, 14);
        Check.fault("lamp l 0 0 0;", 2, 11);
        Check.fine("lamp l 4 4 9;");
        Check.fault("lamp l 0 0 10;", 2, 11);
        Check.fault("lamp l 5 0 1;", 2, 7);
        Check.fault("lamp l 0 5 1;", 2, 9);
        Check.fault("lamp l 0 0 1;lamp l 0 0 1;", 3, 18);
        Check.fine("lamp l 0 0 1;doing l 0 0 0 1;man l 0 0;");
        Check.fine("step 99 3;step 99 3;");
        Check.fault("step 100 0;", 2, 5);
        Check.fault("step 0 4;", 2, 7);
        Check.fine("doing d 1 4 4 99;");
        Check.fault("doing d 2 0 0 1;", 2, 8);
        Check.fault("doing d 0 5 0 1;", 2, 10);
        Check.fault("doing d 0 0 5 1;", 2, 12);
        Check.fault("doing d 0 0 0 0;", 2, 14);
        Check.fault("doing d 0 0 0 100;", 2, 14);
        Check.fault("doing d 0 0 0 1;doing d 0 0 0 1;", 3, 22);
        Check.fault("man m 5 0;", 2, 6);
        Check.fault("man m 0 5;", 2, 8);
        Check.fault("man m 0 0;man m 0 0;", 3, 14);
        Check.fine("cloud 100;seed 99999;");
        Check.fault("cloud 101;", 2, 6);
        Check.fault("cloud 99999999999999999999;", 2, 6);
        Check.fault("cloud 0;cloud 0;", 3, 8);
        Check.fault("seed 100000;", 2, 5);
        Check.fault("seed 0;seed 0;", 3, 7);
    }

    private static String many(String line, int n) {
        StringBuilder s = new StringBuilder();
        for (int i = 0; i < n; i++) {
            String name = String.valueOf((char) ('a' + i));
            s.append(line.replace("#", String.valueOf(i % 12)).replace("@", name));
        }
        return s.toString();
    }

    private static void tooMany(String line, int most) {
        String text = "room 8 8;her 7 7;" + many(line, most);
        Check.fine(text);
        Check.fault(text + line, 2, text.length());
    }

    private static void faultsOfTooMany() {
        tooMany("wall # 0;", 8);
        tooMany("sun # 0 0;", 6);
        tooMany("lamp @ 0 0 1;", 4);
        tooMany("step # 0;", 12);
        tooMany("doing @ 0 0 0 1;", 8);
        tooMany("man @ 0 0;", 4);
    }

    private static void faultsOfLaws() {
        Check.fault("law sun 1;", 1, 4);
        Check.fault("law 1;", 1, 4);
        Check.fault("law long;", 1, 8);
        Check.fault("law long", 1, 8);
        Check.fault("law long 1;law long 1;", 3, 15);
        Check.fault("law long 1;law long !;", 3, 15);
        Check.fine("law long 1;law fond 1;law tired 1;");
        Check.fault("law long 1+;", 1, 11);
        Check.fault("law long +1;", 1, 9);
        Check.fault("law long -1;", 1, 9);
        Check.fault("law long 1 2;", 1, 11);
        Check.fault("law long x;", 1, 9);
        Check.fault("law long room;", 1, 9);
        Check.fault("law long (1;", 1, 11);
        Check.fault("law long ();", 1, 10);
        Check.fault("law long 1);", 1, 10);
        Check.fault("law long (1));", 1, 12);
        Check.fault("law long 1(2);", 1, 10);
        Check.fault("law long 1<2<3;", 1, 12);
        Check.fault("law long 1<2=3;", 1, 12);
        Check.fine("law long (1<2)<3;");
        Check.fine("law long 1<2 and 2<3 or 3<4;");
        Check.fine("law long not 1<2;");
        Check.fine("law long 1<=2 or 1<>2 or 1>=2 or 1>2 or 1=2;");
        Check.fault("law long 1< =2;", 1, 12);
        Check.fault("law long 1<==2;", 1, 12);
        Check.fault("law long 1=>2;", 1, 11);
        Check.fault("law long 1><2;", 1, 11);
        Check.fault("law long 1>>2;", 1, 11);
        Check.fault("law long 1+not 2;", 1, 11);
        Check.fault("law long 1<not 2;", 1, 11);
        Check.fault("law long 1 not 2;", 1, 11);
        Check.fine("law long not not 1 and not(not 2);");
        Check.fault("law long not;", 1, 12);
        Check.fault("law long 1 and;", 1, 14);
        Check.fault("law long 1 or or 2;", 1, 14);
        Check.fine("law long 9999;");
        Check.fault("law long 10000;", 2, 9);
        Check.fine("law long ((((((((1))))))));");
        Check.fault("law long (((((((((1)))))))));", 2, 17);
        Check.fine("law long ((((((((1))))))))+((((((((2))))))));");
        Check.fault("law long ((((((((1))))))))(;", 1, 26);
    }

    private static void knots() {
        String sixtyThree = "1" + "+1".repeat(31);
        Check.fine("law long not " + sixtyThree + ";");
        Check.fault("law long " + sixtyThree + "+1;", 2, 9 + 64);
        Check.fault("law long " + sixtyThree + "+" + "10000;", 2, 9 + 64);
        Check.fault("law long " + sixtyThree + "+!;", 1, 9 + 64);
        Check.fault("law long " + sixtyThree + "+;", 1, 9 + 64);
        Check.fault("law long " + sixtyThree + ";law fond 1;law tired 1;", 2, 9 + 63 + 22);
        Check.fault("law long " + sixtyThree + ";law fond 1;law tired (1);", 2, 9 + 63 + 23);
        Check.fault("law long " + sixtyThree + ";law fond 1;law tired ;", 1, 9 + 63 + 22);
        Check.fault("law long " + "not ".repeat(64) + "1;", 2, 9 + 256);
        ShadowTwin broken = new ShadowTwin();
        Check.tell(broken, "law long not (1+(2*(;");
        Check.due("a law behind a broken one", Check.tell(broken, "law tired 2*3-1;"), 1);
        Check.due("its value", broken.law(2, 0), 5);
        Check.tell(broken, "law long not (1+(2*(;");
        Check.due("no '(' is open any more", Check.tell(broken, "law tired 2);"), -1);
        Check.due("at the ')'", broken.fault(1), 11);
        ShadowTwin x = Check.told("law long far+met*trod-done/weary<=lit and not(hour)or 2;law tired 3;");
        Check.due("knots of all laws", x.count(5), 17);
    }

    private static void faultItself() {
        ShadowTwin x = new ShadowTwin();
        Check.tell(x, "seed !;");
        Check.due("fault(0)", x.fault(0), 1);
        Check.due("text(99)", x.text(99), -2);
        Check.due("that was not -2", x.fault(1), 5);
        Check.due("fault(-1)", x.fault(-1), -1);
        Check.due("fault(2)", x.fault(2), -1);
        x.text(0);
        Check.due("without: fault(0)", x.fault(0), 0);
        Check.due("without: fault(1)", x.fault(1), -1);
    }

    private static void named() {
        ShadowTwin x = Check.told("lamp a 0 0 1;lamp zzzzzz 0 0 1;doing tea 0 0 0 1;doing a 0 0 0 1;man tom 0 0;man to 0 0;");
        Check.due("lamp a", x.named(0, 1 << 25), 0);
        Check.due("lamp zzzzzz", x.named(0, Check.letters("zzzzzz")), 1);
        Check.due("doing a", x.named(1, Check.letters("a")), 1);
        Check.due("doing tea", x.named(1, Check.letters("tea")), 0);
        Check.due("man to", x.named(2, Check.letters("to")), 1);
        Check.due("man tea", x.named(2, Check.letters("tea")), -1);
        Check.due("lamp tea", x.named(0, Check.letters("tea")), -1);
        Check.due("letters 1", x.named(0, 1), -1);
        Check.due("letters 0", x.named(0, 0), -1);
        Check.due("more than 30 bits", x.named(0, 1 << 25 | 1 << 30), -1);
        Check.due("below 0", x.named(0, 1 << 25 | 1 << 31), -1);
        Check.due("named(3)", x.named(3, 1 << 25), -1);
        Check.due("named(-1)", x.named(-1, 1 << 25), -1);
    }
}
