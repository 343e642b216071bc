/** Both sides of every boundary that ==== 1. of the document and promises 1 to 5 name, a test for each sentence. */
public final class EdgeTextTest {
    private static final String[] LANGUAGE = {"room", "her", "wall", "sun", "lamp", "step", "doing", "man", "cloud", "seed", "law",
        "long", "fond", "tired", "or", "and", "not", "far", "met", "trod", "done", "weary", "lit", "hour"};
    private static final String[] SIGNS = {"+", "-", "*", "/", "<", "<=", "=", "<>", ">=", ">", " and ", " or "};
    private static final String[] PARTS = {"7", "far", "met", "trod", "done", "weary", "lit", "hour"};
    private static final String ROOM = "room 3 7;her 1 1;";

    public static void main(String[] args) {
        blanks();
        ownWords();
        wordsOfTheLanguage();
        digits();
        signsOfTwo();
        numbersOfE();
        rooms();
        roomFirst();
        her();
        walls();
        suns();
        lamps();
        steps();
        doings();
        men();
        cloudAndSeed();
        numberedAsTheyCome();
        allAtOnce();
        firstFault();
        leastFault();
        tokensThatAreNone();
        lengthOfTheText();
        tooManyLines();
        openBrackets();
        knotsOfAllKinds();
        knotsOfAllLaws();
        toldAlready();
        wallsThatCollide();
        newObject();
        feedInOrder();
        feedUntilFull();
        textNotSoMany();
        textFirstBytes();
        textWithFault();
        textAnew();
        faultOfLatest();
        named();
        Check.end();
    }

    private static void blanks() {
        Check.about("Blanks 10, 32.");
        for (int sign = 0; sign < 256; sign++) {
            String text = "seed" + (char) sign + "1;";
            boolean isBlank = sign == 10 || sign == 32;
            if (isBlank || sign >= '0' && sign <= '9') {
                Check.fine(text);
            } else {
                Check.fault(text, 1, sign >= 'a' && sign <= 'z' ? 0 : 4);
            }
        }
        Check.fine("");
        Check.fine(" \n\n  ");
        Check.fine("\nseed\n1\n;\n");
    }

    private static void ownWords() {
        Check.about("W: one of 1 .. 6 letters, none of those of the language");
        String[] lines = {"lamp # 0 0 1;", "doing # 0 0 0 1;", "man # 0 0;"};
        for (String line : lines) {
            int place = line.indexOf('#');
            Check.fine(line.replace("#", "a"));
            Check.fine(line.replace("#", "zzzzzz"));
            Check.fault(line.replace("#", "aaaaaaa"), 1, place);
            Check.fault(line.replace("#", "abcdefghijklmnopqrstuvwxyz"), 1, place);
            Check.fault(line.replace("# ", ""), 1, place);
            Check.fault(line.replace("#", "1"), 1, place);
            for (String word : LANGUAGE) {
                Check.fault(line.replace("#", word), 1, place);
                Check.fine(line.replace("#", word + "x"));
                Check.fine(line.replace("#", word.substring(1) + "q"));
                Check.fine(line.replace("#", word.substring(0, word.length() - 1)));
            }
        }
    }

    private static void wordsOfTheLanguage() {
        Check.about("LINE: room N N | her N N | wall N N | sun N N N | lamp W N N N | step N N | doing W N N N N | man W N N | cloud N"
            + " | seed N | law RULE E. RULE: long | fond | tired.");
        for (int i = 0; i < LANGUAGE.length; i++) {
            boolean isLine = i <= 10;
            Check.fault(LANGUAGE[i], 1, isLine ? LANGUAGE[i].length() : 0);
            Check.fault(LANGUAGE[i] + ";", 1, isLine ? LANGUAGE[i].length() : 0);
            Check.fault(LANGUAGE[i] + "s 1;", 1, 0);
            boolean isRule = i >= 11 && i <= 13;
            Check.fault("law " + LANGUAGE[i], 1, isRule ? 4 + LANGUAGE[i].length() : 4);
            Check.fault("law " + LANGUAGE[i] + ";", 1, isRule ? 4 + LANGUAGE[i].length() : 4);
            boolean isName = i >= 17;
            Check.fault("law long " + LANGUAGE[i] + ";", isName ? 0 : 1, isName ? -1 : LANGUAGE[i].equals("not") ? 12 : 9);
        }
        Check.fault("Room 1 1;", 1, 0);
        Check.fault("rooM 1 1;", 1, 0);
        Check.fault("ro om 1 1;", 1, 0);
        String[] lines = {"room 1 1", "her 0 0", "wall 0 1", "sun 0 0 0", "lamp a 0 0 1", "step 0 0", "doing a 0 0 0 1", "man a 0 0",
            "cloud 0", "seed 0", "law long 1"};
        for (String line : lines) {
            Check.fine(line + ";");
            Check.fault(line, 1, line.length());
            Check.fault(line + ";;", 1, line.length() + 1);
            Check.fault(line + " 1;", 1, line.length() + 1);
            int last = line.lastIndexOf(' ');
            Check.fault(line.substring(0, last) + ";", 1, last);
        }
    }

    private static void digits() {
        Check.about("N: digits.");
        Check.fine("seed 0000000000000000000000000000099999;");
        Check.fault("seed 0000000000000000000000000000100000;", 2, 5);
        String[] huge = {"4294967296", "4294967297", "2147483648", "18446744073709551616", "18446744073709551617", "1000000", "9999999"};
        for (String number : huge) {
            Check.fault("cloud " + number + ";", 2, 6);
            Check.fault("room " + number + " 1;", 2, 5);
            Check.fault("law long " + number + ";", 2, 9);
        }
        Check.fault("seed -1;", 1, 5);
        Check.fault("seed +1;", 1, 5);
        Check.fault("seed 1.0;", 1, 6);
        Check.fault("seed 0x1;", 1, 6);
        Check.due("all its digits", Check.told("cloud 075;").clear(1, 0), 1);
    }

    private static void signsOfTwo() {
        Check.about("A = (or > behind <) right behind < or > belongs to it.");
        String[] two = {"<=", "<>", ">="};
        for (String sign : two) {
            Check.fine("law long 1" + sign + "2;");
            Check.fault("law long 1" + sign.charAt(0) + " " + sign.charAt(1) + "2;", 1, 12);
            Check.fault("law long 1" + sign.charAt(0) + "\n" + sign.charAt(1) + "2;", 1, 12);
            Check.fault("law long 1" + sign + "=2;", 1, 12);
            Check.fault("law long 1" + sign + ">2;", 1, 12);
        }
        String[] apart = {"==", "=<", "=>", "><", ">>", "<<"};
        for (String signs : apart) {
            Check.fault("law long 1" + signs + "2;", 1, 11);
        }
        Check.fault("law long 1<", 1, 11);
        Check.fault("law long 1<=", 1, 12);
        Check.due("one KNOT", Check.told("law long 1<>2;").count(5), 3);
    }

    /** The least and the most are fine, what lies beyond them is too much, at it. */
    private static void bounds(String before, int least, int most, String behind) {
        Check.fine(before + least + behind);
        Check.fine(before + most + behind);
        if (least > 0) {
            Check.fault(before + (least - 1) + behind, 2, before.length());
        }
        Check.fault(before + (most + 1) + behind, 2, before.length());
        Check.fault(before + "99999999999999999999" + behind, 2, before.length());
    }

    private static void numbersOfE() {
        Check.about("N of E 0 .. 9999.");
        bounds("law long ", 0, 9999, ";");
        bounds("law fond 1 and not (", 0, 9999, ");");
        bounds("law tired far*", 0, 9999, ";");
        Check.due("the least", Check.told("law tired 0;").law(2, 0), 0);
        Check.due("the most", Check.told("law tired 9999;").law(2, 0), 9999);
    }

    private static void rooms() {
        Check.about("ROWS, COLUMNS 1 .. 8 (5 and 5 without; only as the first LINE)");
        bounds("room ", 1, 8, " 1;");
        bounds("room 1 ", 1, 8, ";");
        for (int rows = 1; rows <= 8; rows++) {
            for (int columns = 1; columns <= 8; columns++) {
                String room = "room " + rows + " " + columns + ";";
                ShadowTwin x = Check.told(room);
                Check.due("rows", x.count(3), rows);
                Check.due("columns", x.count(4), columns);
                Check.due("the last cell", x.wall(rows - 1, columns - 1), 0);
                Check.due("a row more", x.wall(rows, 0), -1);
                Check.due("a column more", x.wall(0, columns), -1);
                Check.due("all cells", x.homes(0), rows * columns);
                bounds(room + "her ", 0, rows - 1, " 0;");
                bounds(room + "man m 0 ", 0, columns - 1, ";");
            }
        }
        ShadowTwin without = Check.told("seed 1;");
        Check.due("rows without", without.count(3), 5);
        Check.due("columns without", without.count(4), 5);
        bounds("man m ", 0, 4, " 0;");
        bounds("man m 0 ", 0, 4, ";");
    }

    private static void roomFirst() {
        Check.about("a room that isn't the first LINE");
        Check.fine("\n room 2 2;");
        String[] lines = {"room 2 2;", "her 0 0;", "wall 1 1;", "sun 0 0 0;", "lamp a 0 0 1;", "step 0 0;", "doing a 0 0 0 1;",
            "man a 0 0;", "cloud 0;", "seed 0;", "law long 1;"};
        for (String line : lines) {
            Check.fine(line);
            Check.fault(line + "room 2 2;", 1, line.length());
            Check.fault(line + "room 0 9;", 1, line.length());
        }
    }

    private static void her() {
        Check.about("her: ROW, COLUMN at first (0 and 0 without; told ahead of all walls).");
        bounds("room 3 7;her ", 0, 2, " 0;");
        bounds("room 3 7;her 0 ", 0, 6, ";");
        bounds("her ", 0, 4, " 0;");
        bounds("her 0 ", 0, 4, ";");
        ShadowTwin x = Check.told("room 3 7;her 2 6;");
        Check.due("row", x.where(0), 2);
        Check.due("column", x.where(1), 6);
        ShadowTwin without = Check.told("room 3 7;");
        Check.due("row without", without.where(0), 0);
        Check.due("column without", without.where(1), 0);
        Check.fine("sun 0 0 0;lamp a 0 0 1;step 0 0;doing a 0 0 0 1;man a 0 0;cloud 0;seed 0;law long 1;her 1 1;wall 0 0;");
        Check.about("her behind a wall)");
        Check.fault("sun 0 0 0;wall 1 0;seed 1;her 0 0;", 1, 26);
        Check.fine("sun 0 0 0;her 0 0;seed 1;wall 1 0;");
    }

    private static void walls() {
        Check.about("WALLS, at most 8: a cell in which she isn't (at first) and no wall is.");
        bounds(ROOM + "wall ", 0, 2, " 0;");
        bounds(ROOM + "wall 0 ", 0, 6, ";");
        String eight = "wall 0 0;wall 0 1;wall 0 2;wall 0 3;wall 0 4;wall 0 5;wall 0 6;wall 1 0;";
        ShadowTwin x = Check.told(ROOM + eight);
        Check.due("the first", x.wall(0, 0), 1);
        Check.due("the eighth", x.wall(1, 0), 1);
        Check.due("she", x.wall(1, 1), 0);
        Check.due("no more", x.homes(0), 21 - 8);
        Check.fault(ROOM + eight + "wall 2 2;", 2, ROOM.length() + eight.length());
        Check.fault(ROOM + eight + "wall 1 1;", 2, ROOM.length() + eight.length());
    }

    private static void suns() {
        Check.about("SUNS, at most 6: an HOUR of the day 0 .. 23 (each once), a WAY 0 .. 3 (0 up, a ROW less; 1 right; 2 down; 3 left),"
            + " a LENGTH 0 .. 7: from that HOUR of the day on up to that of the next one, round midnight, too.");
        bounds("sun ", 0, 23, " 0 0;");
        bounds("sun 0 ", 0, 3, " 0;");
        bounds("sun 0 0 ", 0, 7, ";");
        Check.fine("sun 0 0 0;sun 1 0 0;sun 22 0 0;sun 23 0 0;");
        ShadowTwin x = Check.told("her 2 2;sun 12 0 1;sun 23 1 1;sun 0 2 1;");
        int[] down = {-1, 0, 1, 0};
        int[] right = {0, 1, 0, -1};
        for (int hour = 0; hour < 72; hour++) {
            int ofDay = hour % 24;
            int way = ofDay == 23 ? 1 : ofDay < 12 ? 2 : 0;
            Check.due("its row at " + hour, x.where(2), 2 + down[way]);
            Check.due("its column at " + hour, x.where(3), 2 + right[way]);
            x.go(1);
        }
        for (int hour = 0; hour < 24; hour++) {
            for (int way = 0; way < 4; way++) {
                ShadowTwin alone = Check.told("her 2 2;sun " + hour + " " + way + " 2;");
                for (int i = 0; i < 25; i++) {
                    Check.due("a sun alone: row", alone.where(2), 2 + 2 * down[way]);
                    Check.due("a sun alone: column", alone.where(3), 2 + 2 * right[way]);
                    alone.go(1);
                }
            }
        }
    }

    private static void lamps() {
        Check.about("LAMPS, at most 4: a cell, a RANGE 1 .. 9; they are LIT at first.");
        bounds(ROOM + "lamp l ", 0, 2, " 0 1;");
        bounds(ROOM + "lamp l 0 ", 0, 6, " 1;");
        bounds(ROOM + "lamp l 0 0 ", 1, 9, ";");
        ShadowTwin x = Check.told(ROOM + "wall 0 0;lamp a 0 0 1;lamp b 0 0 9;lamp c 1 1 1;lamp d 2 6 5;");
        Check.due("four are lit", x.count(11), 4);
        for (int lamp = 0; lamp < 4; lamp++) {
            Check.due("lit at first", x.lamp(lamp, 3), 1);
        }
    }

    private static void steps() {
        Check.about("STEPS, at most 12: an HOUR 0 .. 99, a WAY 0 .. 3.");
        bounds("step ", 0, 99, " 0;");
        bounds("step 0 ", 0, 3, ";");
        ShadowTwin x = Check.told("step 0 1;step 99 1;step 98 2;");
        x.go(1);
        Check.due("of the first hour", x.where(1), 1);
        x.go(98);
        Check.due("of the last hour but one", x.where(0), 1);
        Check.due("not yet", x.where(1), 1);
        x.go(1);
        Check.due("of the last hour", x.where(1), 2);
        ShadowTwin all = Check.told("room 1 2;" + "step 5 1;step 5 3;".repeat(6) + "law tired 0;man a 0 0;");
        Check.due("twelve in one hour", all.ahead(6, 2), 0);
        all.go(6);
        Check.due("all twelve", all.where(1), 0);
    }

    private static void doings() {
        Check.about("DOINGS, at most 8: whose (0 hers, 1 its), a cell, WORTH 1 .. 99.");
        bounds("doing d ", 0, 1, " 0 0 1;");
        bounds(ROOM + "doing d 0 ", 0, 2, " 0 1;");
        bounds(ROOM + "doing d 0 0 ", 0, 6, " 1;");
        bounds("doing d 0 0 0 ", 1, 99, ";");
        ShadowTwin x = Check.told("room 1 2;sun 0 1 1;doing a 0 0 0 1;doing b 1 0 1 99;doing c 0 0 1 50;doing d 1 0 0 50;");
        x.go(1);
        Check.due("hers and its", x.count(8), 100);
        Check.fine("wall 1 1;doing d 0 1 1 1;");
    }

    private static void men() {
        Check.about("MEN, at most 4: a cell.");
        bounds(ROOM + "man m ", 0, 2, " 0;");
        bounds(ROOM + "man m 0 ", 0, 6, ";");
        ShadowTwin x = Check.told(ROOM + "wall 0 0;man a 0 0;man b 1 1;man c 1 1;man d 2 6;");
        Check.due("four", x.count(2), 4);
        Check.due("the last one's row", x.man(3, 0), 2);
        Check.due("the last one's column", x.man(3, 1), 6);
    }

    private static void cloudAndSeed() {
        Check.about("cloud: of a hundred 0 .. 100 (0). seed: 0 .. 99999 (0).");
        bounds("cloud ", 0, 100, ";");
        bounds("seed ", 0, 99999, ";");
        Check.due("no clouds without", Check.told("seed 1;").clear(6, 0), 1);
        Check.due("one below without", Check.told("seed 1;").clear(6, 1), 1);
        Check.due("clouds for sure", Check.told("cloud 100;").clear(1, 0), 0);
        String sky = "sun 0 1 1;cloud 50;";
        ShadowTwin without = Check.told(sky);
        ShadowTwin zero = Check.told(sky + "seed 0;");
        ShadowTwin last = Check.told(sky + "seed 99999;");
        int differ = 0;
        for (int i = 0; i < 60; i++) {
            without.go(1);
            zero.go(1);
            last.go(1);
            Check.due("as of seed 0", without.count(10), zero.count(10));
            differ += without.count(10) == last.count(10) ? 0 : 1;
        }
        Check.due("not as of another seed", differ > 0, true);
    }

    private static void numberedAsTheyCome() {
        Check.about("All numbered as they come; LAMPS, DOINGS, MEN have names of their kind.");
        String same = "lamp b 0 1 1;man b 0 1;doing b 0 0 1 1;doing a 0 0 2 1;man a 0 2;lamp a 0 2 1;";
        ShadowTwin x = Check.told(same);
        for (int kind = 0; kind < 3; kind++) {
            Check.due("b came first", x.named(kind, Check.letters("b")), 0);
            Check.due("a came then", x.named(kind, Check.letters("a")), 1);
        }
        Check.due("lamp b", x.lamp(0, 1), 1);
        Check.due("lamp a", x.lamp(1, 1), 2);
        Check.due("doing b", x.doing(0, 2), 1);
        Check.due("doing a", x.doing(1, 2), 2);
        Check.due("man b", x.man(0, 1), 1);
        Check.due("man a", x.man(1, 1), 2);
    }

    private static String many(String line, int most) {
        StringBuilder s = new StringBuilder();
        for (int i = 0; i < most; i++) {
            s.append(line.replace("#", String.valueOf(i)).replace("@", String.valueOf((char) ('a' + i))));
        }
        return s.toString();
    }

    private static void allAtOnce() {
        Check.about("A TEXT: { LINE ';' }.");
        String text = "room 8 8;her 7 7;" + many("wall # 0;", 8) + many("sun # 0 1;", 6) + many("lamp @ 0 0 9;", 4)
            + many("step # 0;", 12) + many("doing @ 0 0 0 1;", 8) + many("man @ 0 0;", 4)
            + "cloud 100;seed 99999;law long 7;law fond 9;law tired 0;";
        ShadowTwin x = new ShadowTwin();
        Check.due("as many LINES of each kind as there may be", Check.tell(x, text), 2 + 8 + 6 + 4 + 12 + 8 + 4 + 5);
        int[] counts = {4, 8, 4, 8, 8, 3};
        for (int what = 0; what < counts.length; what++) {
            Check.due("count(" + what + ")", x.count(what), counts[what]);
        }
        Check.due("no LINE", Check.tell(x, ""), 0);
        Check.due("one LINE", Check.tell(x, "seed 1;"), 1);
    }

    private static void firstFault() {
        Check.about("FAULTS, the first along the text");
        Check.fault("sun 24 4 8;", 2, 4);
        Check.fault("sun 23 4 8;", 2, 7);
        Check.fault("sun 23 3 8!", 2, 9);
        Check.fault("sun 23 3 7!", 1, 10);
        Check.fault("lamp toolong 9 9 0;", 1, 5);
        Check.fault("lamp l 9 9 0;", 2, 7);
        Check.fault("her 5 0;her 0 0;", 2, 4);
        Check.fault("her 4 0;her 5 0;", 3, 8);
        Check.fault("wall 1 1;wall 1 1;wall 9 9;", 5, 16);
        Check.fault("wall 1 1;wall 9 1;wall 1 1;", 2, 14);
        Check.fault("sun 1 1 1;sun 1 9 9;", 3, 14);
        Check.fault("man m 0 0;man m 9 9;", 3, 14);
        Check.fault("law long 1;law long 99999;", 3, 15);
        Check.fault("law long 99999 !;", 2, 9);
        Check.fault("law long 1 ! 99999;", 1, 11);
        Check.fault("seed 1;seed x;", 3, 7);
        Check.fault(many("man @ 0 0;", 4) + "man a 9 9;", 2, 40);
        Check.fault(many("sun # 0 0;", 6) + "sun 0 9 9;", 2, 60);
    }

    private static void leastFault() {
        Check.about("(of one place the least)");
        // told already (3), but behind a wall (1)
        Check.fault("her 0 0;wall 1 1;her 0 0;", 1, 17);
        Check.fault("her 0 0;her 0 0;wall 1 1;", 3, 8);
        // out of the room (2) where a wall couldn't be read as one (5)
        Check.fault("room 1 1;wall 0 1;", 2, 16);
        Check.fault("room 1 1;wall 0 0;", 5, 16);
        String knots = "law long 1" + "+1".repeat(31);
        // a 65th KNOT (2) that can't stand there (1)
        Check.fault(knots + "+not 1;", 1, knots.length() + 1);
        Check.fault(knots + " and not 1;", 2, knots.length() + 5);
        Check.fault("law fond 1;" + knots + " 2;", 1, 12 + knots.length());
        Check.fault("law fond 1;" + knots + "+2;", 2, 11 + knots.length());
        Check.fault("law long 1" + "+1".repeat(30) + ";law fond 1<2<3;", 1, 83);
        Check.fault("law long 1" + "+1".repeat(30) + ";law fond 1<2+3;", 2, 83);
        // a ninth '(' (2) that can't stand there (1)
        Check.fault("law long ((((((((1(2;", 1, 18);
        Check.fault("law long ((((((((1+(2;", 2, 19);
        // a number beyond (2) that can't stand there (1)
        Check.fault("law long 1 10000;", 1, 11);
        Check.fault("lamp 10 0 0 1;", 1, 5);
        Check.fault("seed 1 100000;", 1, 7);
    }

    private static void tokensThatAreNone() {
        Check.about("1 a TOKEN that is none (a word of more than 6 letters that is none of the language, too) or can't stand there");
        String signs = "!\"#$%&',.:?@[\\]^_`{|}~ABCXYZ";
        for (int i = 0; i < signs.length(); i++) {
            char sign = signs.charAt(i);
            Check.fault(sign + "seed 1;", 1, 0);
            Check.fault("seed 1" + sign + ";", 1, 6);
            Check.fault("seed 1;" + sign, 1, 7);
            Check.fault("law long 1" + sign + "1;", 1, 10);
            Check.fault("law long " + sign + ";", 1, 9);
        }
        Check.fault("seedlings 1;", 1, 0);
        Check.fault("law longest 1;", 1, 4);
        Check.fault("law long wearyest;", 1, 9);
        Check.fault("law long 1 andnot 1;", 1, 11);
        Check.fault("law long notnot 1;", 1, 9);
        Check.fine("law long not not 1;");
        Check.fine("law long not(1)and(1)or(far)+1;");
    }

    /** Where a text is cut: behind a whole LINE it is fine, in a word of the language that word is none, else more must come. */
    private static void lengthOfTheText() {
        Check.about("(the length, if more must come;");
        String text = "room 8 8 ; her 1 1 ; wall 0 0 ; sun 12 1 1 ; lamp la 1 1 1 ; step 10 1 ; doing du 1 1 1 11 ; man mo 1 1 ; "
            + "cloud 10 ; seed 11 ; law long ( far + 1 ) * 1 <= 11 and not hour <> 1 or 1 >= 1 ;";
        String[] tokens = text.split(" ");
        StringBuilder s = new StringBuilder();
        int lines = 0;
        for (int i = 0; i < tokens.length; i++) {
            int start = s.length();
            boolean isOwn = i > 0 && (tokens[i - 1].equals("lamp") || tokens[i - 1].equals("doing") || tokens[i - 1].equals("man"));
            boolean isWord = !isOwn && Character.isLetter(tokens[i].charAt(0));
            for (int k = 0; k < tokens[i].length(); k++) {
                s.append(tokens[i].charAt(k));
                boolean isWhole = k == tokens[i].length() - 1;
                if (tokens[i].equals(";")) {
                    lines++;
                    Check.due("so many LINES", Check.tell(new ShadowTwin(), s.toString()), lines);
                    Check.due("so many LINES, a blank", Check.tell(new ShadowTwin(), s + "\n"), lines);
                } else {
                    Check.fault(s.toString(), 1, isWord && !isWhole ? start : s.length());
                    Check.fault(s + " \n ", 1, isWord && !isWhole ? start : s.length() + 3);
                }
            }
            s.append(' ');
        }
        Check.due("all LINES", lines, 11);
    }

    private static void tooManyLines() {
        Check.about("a ninth wall and so on (at the word of the LINE)");
        tooMany("wall # 0;", 8);
        tooMany("sun # 0 0;", 6);
        tooMany("lamp @ 0 0 1;", 4);
        tooMany("step # 0;", 12);
        tooMany("doing @ 0 0 0 1;", 8);
        tooMany("man @ 0 0;", 4);
    }

    private static void tooMany(String line, int most) {
        String before = "room 8 8;her 7 7;";
        String text = before + many(line, most);
        Check.due("as many as there may be", Check.tell(new ShadowTwin(), text), 2 + most);
        Check.fault(text + "\n" + line, 2, text.length() + 1);
        Check.fault(text + line.substring(0, line.indexOf(' ')), 2, text.length());
        // another kind may still come
        Check.fine(text + "seed 1;");
    }

    private static void openBrackets() {
        Check.about("a ninth '(' open");
        for (int open = 1; open <= 8; open++) {
            Check.fine("law long " + "(".repeat(open) + "1" + ")".repeat(open) + ";");
        }
        Check.fault("law long (((((((((1)))))))));", 2, 17);
        Check.fault("law long ((((((((((1))))))))));", 2, 17);
        Check.fine("law long ((((((((1)+(1))))))));");
        Check.fine("law long (((((((1)+((1" + ")".repeat(8) + ";");
        Check.fault("law long ((((((((1)+((1)))))))));", 2, 21);
        Check.fine("law long ((((((((1))))))));law fond ((((((((1))))))));law tired ((((((((1))))))));");
        Check.fault("law long ((((((((1))))))));law fond (((((((((1)))))))));", 2, 44);
        Check.fault("law long ((((((((1)))))));", 1, 25);
        Check.fault("law long ((((((((1)))))))));", 1, 26);
    }

    private static void knotsOfAllKinds() {
        Check.about("a 65th KNOT of all E (N, NAMES, signs, not, and, or: one each)");
        for (String part : PARTS) {
            Check.due(part, Check.told("law long " + part + ";").count(5), 1);
            Check.due("brackets are none", Check.told("law long ((" + part + "));").count(5), 1);
            Check.due("not", Check.told("law long not not " + part + ";").count(5), 3);
            for (String sign : SIGNS) {
                Check.due(sign, Check.told("law long " + part + sign + part + ";").count(5), 3);
            }
            String most = "law long " + (part + "+").repeat(31) + part;
            Check.due("63", Check.told(most + ";").count(5), 63);
            Check.fault(most + "+" + part + ";", 2, most.length() + 1);
            String full = "law long not " + (part + "+").repeat(31) + part;
            Check.due("64", Check.told(full + ";").count(5), 64);
            for (String sign : SIGNS) {
                Check.fault(full + " " + sign.trim() + " 1;", 2, full.length() + 1);
            }
        }
        Check.fault("law long " + "not ".repeat(64) + "1;", 2, 9 + 256);
        Check.fine("law long " + "not ".repeat(63) + "1;");
        Check.fault("law long 1" + "+1".repeat(31) + " and not 1;", 2, 9 + 63 + 5);
    }

    private static void knotsOfAllLaws() {
        Check.about("a 65th KNOT of all E");
        String first = "law long 1" + "+1".repeat(10) + ";law fond 1" + "*1".repeat(10) + ";";
        ShadowTwin x = new ShadowTwin();
        for (int i = 0; i < 2; i++) {
            Check.due("21, 21 and 22", Check.tell(x, first + "law tired not 1" + "-1".repeat(10) + ";"), 3);
            Check.due("64", x.count(5), 64);
            String one = first + "law tired not not 1" + "-1".repeat(9) + "-";
            Check.due("65", Check.tell(x, one + "1;"), -1);
            Check.due("too much", x.fault(0), 2);
            Check.due("at it", x.fault(1), one.length());
            Check.due("those of the text that holds", x.count(5), 64);
        }
    }

    private static void toldAlready() {
        Check.about("3 told already: a name of its kind (at W), her, cloud, seed (at the word), a SUN of an HOUR (at it),"
            + " a law of its RULE (at RULE).");
        Check.fault("lamp l 0 0 1;lamp  l 1 1 1;", 3, 19);
        Check.fine("lamp l 0 0 1;lamp ll 0 0 1;lamp k 0 0 1;");
        Check.fault("doing l 0 0 0 1;doing  l 1 1 1 1;", 3, 23);
        Check.fine("doing l 0 0 0 1;doing ll 0 0 0 1;doing k 0 0 0 1;");
        Check.fault("man l 0 0;man  l 1 1;", 3, 15);
        Check.fine("man l 0 0;man ll 0 0;man k 0 0;");
        Check.fine("lamp l 0 0 1;doing l 0 0 0 1;man l 0 0;");
        Check.fault("lamp abcdef 0 0 1;lamp abcdeg 0 0 1;lamp abcdef 0 0 1;", 3, 41);
        Check.fault("her 0 0; her 1 1;", 3, 9);
        Check.fault("cloud 0; cloud 1;", 3, 9);
        Check.fault("seed 0; seed 1;", 3, 8);
        Check.fault("sun 0 0 0;sun 00 1 1;", 3, 14);
        Check.fault("sun 23 0 0;sun 22 0 0;sun 23 0 0;", 3, 26);
        String[] rules = {"long", "fond", "tired"};
        for (String rule : rules) {
            for (String other : rules) {
                String first = "law " + rule + " 1;";
                Check.fault(first + "law  " + other + " 1;", rule.equals(other) ? 3 : 0, rule.equals(other) ? first.length() + 5 : -1);
            }
        }
    }

    private static void wallsThatCollide() {
        Check.about("5 a wall where she is or a wall is (at the COLUMN).");
        for (int row = 0; row < 3; row++) {
            for (int column = 0; column < 7; column++) {
                String wall = "wall " + row + "  " + column + ";";
                boolean isHers = row == 1 && column == 1;
                Check.fault(ROOM + wall, isHers ? 5 : 0, isHers ? ROOM.length() + 8 : -1);
                boolean isTold = row == 2 && column == 3;
                String two = ROOM + "wall 2 3;";
                Check.fault(two + wall, isHers || isTold ? 5 : 0, isHers || isTold ? two.length() + 8 : -1);
            }
        }
        Check.fault("wall 0 0;", 5, 7);
        Check.fine("wall 0 1;wall 1 0;");
        Check.fault("wall 0 1;wall 1 0;wall 0 1;", 5, 25);
    }

    private static void newObject() {
        Check.about("A TEXT without LINES; an empty TAPE.");
        Check.due("nothing on the tape", new ShadowTwin().text(1), -2);
        Check.due("but none is there", new ShadowTwin().text(0), 0);
        ShadowTwin x = new ShadowTwin();
        x.text(0);
        Check.same("as if told a text without lines", Check.all(new ShadowTwin()), Check.all(x));
        Check.due("no lamp", x.light(0, false), false);
        Check.due("no doing", x.again(0), false);
        Check.due("no steps", x.ahead(99, 2), 0);
        Check.due("one in every hour", x.ahead(99, 4), 99);
    }

    private static void feedInOrder() {
        Check.about("Twenty bytes come behind the TAPE, four of each number, the highest first: how many it has;");
        ShadowTwin x = new ShadowTwin();
        Check.due("20", x.feed(0x6c616d70, 0x20616263, 0x64656620, 0x30203420, 0x393b6c61), 20);
        Check.due("40", x.feed(0x6d702062, 0x20322033, 0x2037203b, 0x20202020, 0x20200a20), 40);
        Check.due("lamp abcdef 0 4 9;lamp b 2 3 7 ;", x.text(40), 2);
        Check.due("its name", x.named(0, Check.letters("abcdef")), 0);
        int[][] due = {{0, 4, 9}, {2, 3, 7}};
        for (int lamp = 0; lamp < 2; lamp++) {
            for (int what = 0; what < 3; what++) {
                Check.due("lamp(" + lamp + ", " + what + ")", x.lamp(lamp, what), due[lamp][what]);
            }
        }
    }

    private static void feedUntilFull() {
        Check.about("NONE, and none come, if it would have more than 700.");
        int blanks = 0x20202020;
        ShadowTwin x = new ShadowTwin();
        for (int i = 1; i <= 35; i++) {
            Check.due("feed", x.feed(blanks, blanks, blanks, blanks, i == 35 ? 0x20207365 : blanks), 20 * i);
        }
        for (int i = 0; i < 3; i++) {
            Check.due("more than 700", x.feed(0, 0, 0, 0, 0), -1);
        }
        Check.due("none came", x.text(701), -2);
        Check.due("720 neither", x.text(720), -2);
        Check.due("the last bytes are a word", x.text(700), -1);
        Check.due("at the word", x.fault(1), 698);
        Check.due("from the front again", x.feed(0x73656564, 0x20313b20, blanks, blanks, blanks), 20);
        Check.due("seed 1;", x.text(20), 1);
        ShadowTwin most = new ShadowTwin();
        String text = " ".repeat(693) + "seed 1;";
        Check.due("700 bytes", Check.tell(most, text), 1);
    }

    private static void textNotSoMany() {
        Check.about("-2, and the TAPE stays: there are not so many, n is below 0.");
        ShadowTwin x = Check.told("room 2 3;lamp l 1 1 9;");
        Check.tell(x, "room !;");
        Check.feed(x, "room 1 1;");
        int[] wrong = {-1, Integer.MIN_VALUE, 21, 700, 701, Integer.MAX_VALUE};
        String before = Check.all(x);
        for (int n : wrong) {
            Check.due("text(" + n + ")", x.text(n), -2);
        }
        Check.same("all stays", Check.all(x), before);
        Check.due("so does the fault", x.fault(0), 1);
        Check.due("so does its place", x.fault(1), 5);
        Check.due("the tape, too", x.feed(0x20202020, 0x20202020, 0x20202020, 0x20202020, 0x20202020), 40);
        Check.due("all that is there", x.text(40), 1);
        Check.due("a row", x.count(3), 1);
    }

    private static void textFirstBytes() {
        Check.about("The TAPE's first n bytes (it is empty then) are the TEXT");
        for (int n = 0; n <= 20; n++) {
            ShadowTwin x = new ShadowTwin();
            Check.feed(x, "seed 1;cloud 7;her 1");
            boolean isWhole = n == 0 || n == 7 || n == 15;
            Check.due("text(" + n + ")", x.text(n), isWhole ? (n + 1) / 8 : -1);
            Check.due("it is empty then", x.text(1), -2);
            Check.due("empty", x.feed(0, 0, 0, 0, 0), 20);
        }
    }

    private static ShadowTwin lived() {
        ShadowTwin x = Check.told("room 1 5;her 0 1;lamp l 0 0 9;lamp k 0 4 1;step 0 0;doing d 0 0 1 5;doing e 1 0 2 6;man m 0 1;man n 0 2;");
        x.go(3);
        x.keep();
        x.light(1, false);
        x.step(1);
        x.see(1, 0, 0, 0, false);
        x.see(1, 0, 0, 1, true);
        x.known(1);
        return x;
    }

    private static void textWithFault() {
        Check.about("NONE with a FAULT, all stays;");
        String[] faults = {"!", "room 0 1;", "room 1 1;her 0 0;her 0 0;", "room 2 2;wall 0 0;", "room 1 1;sun 0 0 7;cloud 100;law long 1"};
        ShadowTwin x = lived();
        String before = Check.all(x);
        for (String fault : faults) {
            Check.due(fault, Check.tell(x, fault), -1);
            Check.same("all stays", Check.all(x), before);
            Check.due("but the tape is empty", x.text(1), -2);
        }
        Check.due("what can be undone stays", x.undo(), 1);
        Check.due("the latest of it", x.where(1), 1);
        Check.due("the image stays", x.back(), 3);
    }

    private static void textAnew() {
        Check.about("(HOUR 0, all LAMPS LIT, nothing DONE, SEEN, all KNOWN, no IMAGE, nothing to undo then): how many LINES;");
        int[] whats = {6, 7, 8, 9, 10, 11, 12, 13, 14};
        int[] before = {3, 2, 11, 1, 0, 1, 2, 1, 2};
        int[] behind = {0, 0, 0, 0, 0, 2, 0, 0, 0};
        ShadowTwin x = lived();
        for (int i = 0; i < whats.length; i++) {
            Check.due("before: count(" + whats[i] + ")", x.count(whats[i]), before[i]);
        }
        Check.due("met before", x.man(0, 2), 3);
        Check.due("trod before", x.man(1, 3), 3);
        Check.due("tired before", x.where(5), 1);
        Check.tell(x, "room 1 5;her 0 1;lamp l 0 0 9;lamp k 0 4 1;doing d 0 0 1 5;doing e 1 0 2 6;man m 0 1;man n 0 2;");
        for (int i = 0; i < whats.length; i++) {
            Check.due("behind: count(" + whats[i] + ")", x.count(whats[i]), behind[i]);
        }
        Check.due("not met", x.man(0, 2), 0);
        Check.due("not trod", x.man(1, 3), 0);
        Check.due("not fond", x.man(1, 4), 0);
        Check.due("not tired", x.where(5), 0);
        Check.due("her column", x.where(1), 1);
        Check.due("no image", x.back(), -1);
        Check.due("nothing to undo", x.undo(), -1);
        x.see(1, 0, 0, 0, false);
        Check.due("all known", x.count(13), 1);
    }

    private static void faultOfLatest() {
        Check.about("Of the latest text() that was not -2, what 0: its FAULT (0), 1: its place (NONE without). NONE for another what.");
        ShadowTwin x = new ShadowTwin();
        faults(x, 0, -1);
        Check.tell(x, "!");
        faults(x, 1, 0);
        Check.tell(x, "room 1 9;");
        faults(x, 2, 7);
        x.text(-1);
        faults(x, 2, 7);
        x.text(1);
        faults(x, 2, 7);
        Check.tell(x, "seed 1;seed 1;");
        faults(x, 3, 7);
        Check.tell(x, "wall 0 0;");
        faults(x, 5, 7);
        x.go(5);
        x.back();
        faults(x, 5, 7);
        x.text(0);
        faults(x, 0, -1);
    }

    private static void faults(ShadowTwin x, int fault, int place) {
        Check.due("fault(0)", x.fault(0), fault);
        Check.due("fault(1)", x.fault(1), place);
        Check.due("fault(-1)", x.fault(-1), -1);
        Check.due("fault(2)", x.fault(2), -1);
        Check.due("fault(least)", x.fault(Integer.MIN_VALUE), -1);
        Check.due("fault(most)", x.fault(Integer.MAX_VALUE), -1);
    }

    private static void named() {
        Check.about("5 bits each (a is 1; the first one highest of six, 0 behind the last one); NONE: there is none such.");
        ShadowTwin x = Check.told("lamp a 0 0 1;lamp aa 0 0 1;lamp aaaaaa 0 0 1;lamp z 0 0 1;doing zzzzzz 0 0 0 1;man azbycx 0 0;man b 0 0;");
        int a = 1 << 25;
        Check.due("a", x.named(0, a), 0);
        Check.due("aa", x.named(0, a | 1 << 20), 1);
        Check.due("aaa", x.named(0, a | 1 << 20 | 1 << 15), -1);
        Check.due("aaaaaa", x.named(0, a | 1 << 20 | 1 << 15 | 1 << 10 | 1 << 5 | 1), 2);
        Check.due("aaaaa", x.named(0, a | 1 << 20 | 1 << 15 | 1 << 10 | 1 << 5), -1);
        Check.due("z", x.named(0, 26 << 25), 3);
        Check.due("a at the end", x.named(0, 1), -1);
        Check.due("a behind none", x.named(0, 1 << 20), -1);
        Check.due("a, none, a", x.named(0, a | 1 << 15), -1);
        Check.due("zzzzzz", x.named(1, 26 << 25 | 26 << 20 | 26 << 15 | 26 << 10 | 26 << 5 | 26), 0);
        Check.due("azbycx", x.named(2, a | 26 << 20 | 2 << 15 | 25 << 10 | 3 << 5 | 24), 0);
        Check.due("b", x.named(2, 2 << 25), 1);
        Check.due("of another kind", x.named(1, a), -1);
        Check.due("of another kind", x.named(2, a), -1);
        Check.due("no such kind", x.named(3, a), -1);
        Check.due("no such kind", x.named(-1, a), -1);
        Check.due("no letters", x.named(0, 0), -1);
        Check.due("more than six", x.named(0, a | 1 << 30), -1);
        Check.due("below 0", x.named(0, a | 1 << 31), -1);
        Check.due("least", x.named(0, Integer.MIN_VALUE), -1);
    }
}
