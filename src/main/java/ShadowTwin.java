import java.util.NoSuchElementException;

/** She and her shadow in a room, told as a text and lived through by hours. */
public final class ShadowTwin {
    public static final int NONE = -1;

    private static final int UNABLE = -2;
    private static final int TAPE_MOST = 700;
    private static final int FEED_BYTES = 20;
    private static final int SIDE_MOST = 8;
    private static final int CELLS_MOST = 64;
    private static final int WALLS_MOST = 8;
    private static final int SUNS_MOST = 6;
    private static final int LAMPS_MOST = 4;
    private static final int STEPS_MOST = 12;
    private static final int DOINGS_MOST = 8;
    private static final int MEN_MOST = 4;
    private static final int SEEN_MOST = 24;
    private static final int UNDO_MOST = 20;
    private static final int WAYS = 4;
    private static final int DAY = 24;
    private static final int HOURS_MOST = 99;
    private static final int SEEN_HOURS_MOST = 40;
    private static final int LAST_HOUR = 9900;
    private static final int PLAN_HOURS = 4;
    private static final int TIMES_DRAWN = 10;
    private static final int CLEAR_HOURS_MOST = 6;
    // What no E can be worth: its values stay within 10 to the 12.
    private static final long ERROR = 0x8000000000000000L;

    // What the columns of a TEXT's tables hold; a name is always the first.
    private static final int NAME = 0;
    private static final int SUN_HOUR = 0;
    private static final int SUN_WAY = 1;
    private static final int SUN_LENGTH = 2;
    private static final int LAMP_ROW = 1;
    private static final int LAMP_COLUMN = 2;
    private static final int LAMP_RANGE = 3;
    private static final int STEP_HOUR = 0;
    private static final int STEP_WAY = 1;
    private static final int DOING_WHOSE = 1;
    private static final int DOING_ROW = 2;
    private static final int DOING_COLUMN = 3;
    private static final int DOING_WORTH = 4;
    private static final int MAN_ROW = 1;
    private static final int MAN_COLUMN = 2;

    private static final int LAW_LONG = 0;
    private static final int LAW_FOND = 1;
    private static final int LAW_TIRED = 2;
    private static final int LAWS = 3;

    // How hours go otherwise than as it goes; they may be added up.
    private static final int AS_IT_GOES = 0;
    private static final int DRAWN = 1;
    private static final int CLOUDLESS = 2;
    private static final int WALLLESS = 4;
    private static final int TIRELESS = 8;
    private static final int SUNLESS = 16;

    private final byte[] tape = new byte[TAPE_MOST];
    private Told told = new Told();
    private Told draft = new Told();
    private final Reader reader = new Reader(draft);
    private final Course course = new Course(told);
    private final Planner planner = new Planner(course);
    private final Paths paths = new Paths();
    private final Log log = new Log();
    private final Sight sight = new Sight();
    private final World now = new World();
    private final World image = new World();
    private final World trial = new World();
    private int taped;
    private int faultOf;
    private int faultAt = NONE;
    private boolean hasImage;

    public ShadowTwin() {
        told.clean();
        startAnew();
    }

    private static int downBy(int way) {
        return way == 0 ? -1 : way == 2 ? 1 : 0;
    }

    private static int rightBy(int way) {
        return way == 1 ? 1 : way == 3 ? -1 : 0;
    }

    public int feed(int a, int b, int c, int d, int e) {
        if (taped + FEED_BYTES > TAPE_MOST) {
            return NONE;
        }
        putBytes(a);
        putBytes(b);
        putBytes(c);
        putBytes(d);
        putBytes(e);
        return taped;
    }

    private void putBytes(int four) {
        for (int shift = 24; shift >= 0; shift -= 8) {
            if (taped < TAPE_MOST) {
                tape[taped] = (byte) (four >> shift);
                taped++;
            }
        }
    }

    public int text(int n) {
        if (n < 0 || n > taped) {
            return UNABLE;
        }
        taped = 0;
        reader.begin(tape, n, draft);
        for (int i = 0; i < n && reader.hasMore(); i++) {
            reader.readLine();
        }
        faultOf = reader.fault;
        faultAt = reader.faultAt;
        if (faultOf != 0) {
            return NONE;
        }
        Told former = told;
        told = draft;
        draft = former;
        startAnew();
        return reader.lines;
    }

    private void startAnew() {
        told.settleSuns();
        course.told = told;
        now.begin(told, told.herRow, told.herColumn);
        hasImage = false;
        log.forget();
        sight.forget();
    }

    public int fault(int what) {
        if (what == 0) {
            return faultOf;
        }
        return what == 1 ? faultAt : NONE;
    }

    public int named(int what, int letters) {
        switch (what) {
            case 0:
                return told.lamps.find(NAME, letters);
            case 1:
                return told.doings.find(NAME, letters);
            case 2:
                return told.men.find(NAME, letters);
            default:
                return NONE;
        }
    }

    public int where(int what) {
        course.fallNow(now);
        switch (what) {
            case 0:
                return now.row;
            case 1:
                return now.column;
            case 2:
                return now.itRow;
            case 3:
                return now.itColumn;
            case 4:
                return now.one ? 1 : 0;
            case 5:
                return now.tired;
            default:
                return NONE;
        }
    }

    public int doing(int doing, int what) throws IndexOutOfBoundsException, NoSuchElementException {
        if (!told.doings.has(doing)) {
            throw new IndexOutOfBoundsException("no such doing");
        }
        if (what < 0 || what > 4) {
            throw new NoSuchElementException("no such what");
        }
        if (what == 4) {
            return now.done >> doing & 1;
        }
        return told.doings.get(doing, DOING_WHOSE + what);
    }

    public int man(int man, int what) {
        if (!isMan(man)) {
            return NONE;
        }
        switch (what) {
            case 0:
                return told.men.get(man, MAN_ROW);
            case 1:
                return told.men.get(man, MAN_COLUMN);
            case 2:
                return now.met[man];
            case 3:
                return now.trod[man];
            case 4:
                return now.fond[man];
            case 5:
                return engagedTo(man);
            default:
                return NONE;
        }
    }

    private boolean isMan(int man) {
        return man < MEN_MOST && told.men.has(man);
    }

    private int engagedTo(int man) {
        if (now.met[man] == now.trod[man]) {
            return UNABLE;
        }
        return now.met[man] > now.trod[man] ? 0 : 1;
    }

    public int lamp(int lamp, int what) {
        if (!told.lamps.has(lamp) || what < 0 || what > 3) {
            return NONE;
        }
        if (what == 3) {
            return now.lit >> lamp & 1;
        }
        return told.lamps.get(lamp, LAMP_ROW + what);
    }

    public int wall(int row, int column) {
        if (!told.isCell(row, column)) {
            return NONE;
        }
        return told.isWall(row, column) ? 1 : 0;
    }

    public long law(int what, int man) {
        switch (what) {
            case 0:
                course.fallNow(now);
                course.tell(now, now.far, 0, 0);
                return course.workOut(LAW_LONG);
            case 1:
                if (!isMan(man)) {
                    return ERROR;
                }
                course.tell(now, 0, now.met[man], World.onceMore(now.trod[man]));
                return course.workOut(LAW_FOND);
            case 2:
                course.tell(now, 0, 0, 0);
                return course.workOut(LAW_TIRED);
            default:
                return ERROR;
        }
    }

    public int step(int way) {
        if (way < 0 || way >= WAYS) {
            return NONE;
        }
        if (!course.isOpen(now, way, AS_IT_GOES)) {
            return UNABLE;
        }
        log.note(now);
        course.attempt(now, way, AS_IT_GOES);
        return now.tired;
    }

    public boolean light(int lamp, boolean is) {
        if (!told.lamps.has(lamp) || (now.lit >> lamp & 1) == (is ? 1 : 0)) {
            return false;
        }
        log.note(now);
        now.lit ^= 1 << lamp;
        return true;
    }

    public boolean again(int doing) {
        if (!told.doings.has(doing) || (now.done >> doing & 1) == 0) {
            return false;
        }
        log.note(now);
        now.done ^= 1 << doing;
        return true;
    }

    public int go(int n) {
        if (!areHours(n) || now.hour + n > LAST_HOUR) {
            return NONE;
        }
        if (n > 0) {
            log.forget();
        }
        course.passAll(now, n, DRAWN);
        return now.hour;
    }

    private static boolean areHours(int n) {
        return n >= 0 && n <= HOURS_MOST;
    }

    public int ahead(int n, int what) {
        if (!areHours(n) || what < 0 || what > 4) {
            return NONE;
        }
        trial.become(now);
        course.passAll(trial, n, AS_IT_GOES);
        switch (what) {
            case 0:
                return Integer.bitCount(trial.done) - Integer.bitCount(now.done);
            case 1:
                return told.worthOf(trial.done) - told.worthOf(now.done);
            case 2:
                return trial.refused - now.refused;
            case 3:
                return trial.fondInAll() - now.fondInAll();
            default:
                return trial.ones - now.ones;
        }
    }

    public int when(int doing) {
        if (!told.doings.has(doing)) {
            return NONE;
        }
        trial.become(now);
        for (int hours = 0; hours <= HOURS_MOST; hours++) {
            if ((trial.done >> doing & 1) == 1) {
                return hours;
            }
            course.pass(trial, AS_IT_GOES);
        }
        return UNABLE;
    }

    public int way(int row, int column) {
        if (!told.isCell(row, column)) {
            return NONE;
        }
        int steps = paths.fewest(told, now.row * SIDE_MOST + now.column, row * SIDE_MOST + column);
        return steps == NONE ? UNABLE : steps;
    }

    public int cast(int row, int column, int hour) {
        if (!told.isCell(row, column) || hour < 0 || hour >= DAY) {
            return NONE;
        }
        trial.become(now);
        trial.hour = hour;
        int from = 0;
        for (int r = 0; r < told.rows; r++) {
            for (int c = 0; c < told.columns; c++) {
                trial.row = r;
                trial.column = c;
                if (!told.isWall(r, c) && fallsOn(row, column, AS_IT_GOES)) {
                    from++;
                }
            }
        }
        return from;
    }

    private boolean fallsOn(int row, int column, int how) {
        course.fall(trial, false, how);
        return !trial.one && trial.itRow == row && trial.itColumn == column;
    }

    public int lampsFor(int row, int column) {
        if (!told.isCell(row, column)) {
            return NONE;
        }
        trial.become(now);
        int best = UNABLE;
        int fewest = LAMPS_MOST + 1;
        int sets = 1 << told.lamps.size();
        for (int bits = 0; bits < sets; bits++) {
            trial.lit = bits;
            // the least bits come first, so only fewer LAMPS are better
            if (Integer.bitCount(bits) < fewest && fallsOn(row, column, SUNLESS)) {
                best = bits;
                fewest = Integer.bitCount(bits);
            }
        }
        return best;
    }

    public int plan(int what) {
        if (what < 0 || what > PLAN_HOURS) {
            return NONE;
        }
        planner.search(now);
        return what == PLAN_HOURS ? planner.most : planner.best[what];
    }

    public int rests(int one, int other) {
        if (!isMan(one) || !isMan(other) || one == other) {
            return NONE;
        }
        int many = 0;
        for (int asks = 0; asks < 4; asks++) {
            if (isRest(one, other, asks)) {
                many++;
            }
        }
        return many;
    }

    public int rest(int one, int other, int k) {
        if (!isMan(one) || !isMan(other) || one == other || k < 0) {
            return NONE;
        }
        int many = 0;
        for (int asks = 0; asks < 4; asks++) {
            if (isRest(one, other, asks)) {
                if (many == k) {
                    return asks / 2 * 10 + asks % 2;
                }
                many++;
            }
        }
        return UNABLE;
    }

    /** asks: twice whom the first one asks, and whom the second one asks. */
    private boolean isRest(int one, int other, int asks) {
        int first = asks / 2;
        int second = asks % 2;
        return shareOf(one, other, first, second) >= shareOf(one, other, 1 - first, second)
            && shareOf(other, one, second, first) >= shareOf(other, one, 1 - second, first);
    }

    private int shareOf(int man, int rival, int asks, int rivalAsks) {
        int whole = asks == 0 ? now.met[man] : now.trod[man];
        if (asks != rivalAsks) {
            return whole;
        }
        return whole / 2 + (now.fond[man] > now.fond[rival] ? 1 : 0);
    }

    public long clear(int n, int what) {
        if (n < 0 || n > CLEAR_HOURS_MOST || what < 0 || what > 1) {
            return NONE;
        }
        int common = commonDivisor(100, 100 - told.cloud);
        // powers of a fraction in least terms are in least terms
        long base = (what == 0 ? 100 - told.cloud : 100) / common;
        long power = 1;
        for (int i = 0; i < n; i++) {
            power *= base;
        }
        return power;
    }

    private static int commonDivisor(int a, int b) {
        for (int d = a; d > 1; d--) {
            if (a % d == 0 && b % d == 0) {
                return d;
            }
        }
        return 1;
    }

    public int see(int hours, int who, int row, int column, boolean is) {
        if (hours < 1 || hours > SEEN_HOURS_MOST || who < 0 || who > 1 || !told.isCell(row, column)) {
            return NONE;
        }
        return sight.add(hours, who, row, column, is);
    }

    public int out(int seen) {
        return sight.strike(seen);
    }

    public boolean known(int n) {
        if (n < -1 || n > sight.size()) {
            return false;
        }
        sight.knownBy = n;
        return true;
    }

    public int homes(int what) {
        if (what < 0 || what > 1) {
            return NONE;
        }
        sight.settle();
        int many = 0;
        for (int r = 0; r < told.rows; r++) {
            for (int c = 0; c < told.columns; c++) {
                if (!told.isWall(r, c) && isHome(r, c)) {
                    if (what == 1) {
                        return 10 * r + c;
                    }
                    many++;
                }
            }
        }
        return what == 0 ? many : UNABLE;
    }

    private boolean isHome(int row, int column) {
        trial.begin(told, row, column);
        int last = sight.lastHour();
        for (int hours = 1; hours <= last; hours++) {
            course.pass(trial, AS_IT_GOES);
            if (!sight.agrees(hours, trial)) {
                return false;
            }
        }
        return true;
    }

    public int chance(int seed, int n, int doings) {
        if (seed < 0 || n < 1 || n > HOURS_MOST || doings < 0 || doings > DOINGS_MOST) {
            return NONE;
        }
        int often = 0;
        int number = seed;
        for (int i = 0; i < TIMES_DRAWN; i++) {
            trial.become(now);
            trial.number = number;
            course.passAll(trial, n, DRAWN);
            number = trial.number;
            if (Integer.bitCount(trial.done) >= doings) {
                often++;
            }
        }
        return often;
    }

    public int tried(int what, int i, int n) {
        if (what < 0 || what > 5 || !areHours(n) || !(what == 2 ? told.lamps.has(i) : i == 0)) {
            return NONE;
        }
        trial.become(now);
        int how = AS_IT_GOES;
        switch (what) {
            case 1:
                how = CLOUDLESS;
                break;
            case 2:
                trial.lit &= ~(1 << i);
                break;
            case 3:
                how = WALLLESS;
                break;
            case 4:
                how = TIRELESS;
                trial.tired = 0;
                break;
            case 5:
                how = SUNLESS;
                break;
            default:
                break;
        }
        course.passAll(trial, n, how);
        return told.worthOf(trial.done) - told.worthOf(now.done);
    }

    public int undo() {
        return log.takeBack(now);
    }

    public int keep() {
        image.become(now);
        hasImage = true;
        return now.hour;
    }

    public int back() {
        if (!hasImage) {
            return NONE;
        }
        now.become(image);
        log.forget();
        return now.hour;
    }

    public int count(int what) {
        switch (what) {
            case 0:
                return told.lamps.size();
            case 1:
                return told.doings.size();
            case 2:
                return told.men.size();
            case 3:
                return told.rows;
            case 4:
                return told.columns;
            case 5:
                return told.knots;
            case 6:
                return now.hour;
            case 7:
                return Integer.bitCount(now.done);
            case 8:
                return told.worthOf(now.done);
            case 9:
                return now.refused;
            case 10:
                return now.ones;
            case 11:
                return Integer.bitCount(now.lit);
            case 12:
                return sight.size();
            case 13:
                return sight.reach();
            case 14:
                return log.size;
            default:
                return NONE;
        }
    }

    /** Rows of numbers, no more of them than the document allows of a kind. */
    private static final class Table {
        private final int[] numbers;
        private final int most;
        private final int width;
        private int rows;

        Table(int most, int width) {
            this.numbers = new int[most * width];
            this.most = most;
            this.width = width;
        }

        void empty() {
            rows = 0;
        }

        int size() {
            return rows;
        }

        boolean isFull() {
            return rows >= most;
        }

        boolean has(int row) {
            return row >= 0 && row < rows;
        }

        void put(int column, int number) {
            if (rows < most && column >= 0 && column < width) {
                numbers[rows * width + column] = number;
            }
        }

        /** What was put is a row from now on: until then a row isn't found. */
        void close() {
            if (rows < most) {
                rows++;
            }
        }

        int get(int row, int column) {
            boolean is = row >= 0 && row < rows && column >= 0 && column < width;
            return is ? numbers[row * width + column] : NONE;
        }

        int find(int column, int number) {
            for (int row = 0; row < rows; row++) {
                if (get(row, column) == number) {
                    return row;
                }
            }
            return NONE;
        }
    }

    /** What a TEXT tells; hours change nothing of it. */
    private static final class Told {
        private final boolean[] walls = new boolean[CELLS_MOST];
        private final int[] sunAt = new int[DAY];
        private final Table suns = new Table(SUNS_MOST, 3);
        private final Table lamps = new Table(LAMPS_MOST, 4);
        private final Table steps = new Table(STEPS_MOST, 2);
        private final Table doings = new Table(DOINGS_MOST, 5);
        private final Table men = new Table(MEN_MOST, 3);
        private final Law[] laws = {new Law(), new Law(), new Law()};
        private int rows;
        private int columns;
        private int herRow;
        private int herColumn;
        private int wallsTold;
        private int cloud;
        private int seed;
        private int knots;

        void clean() {
            for (int i = 0; i < CELLS_MOST; i++) {
                walls[i] = false;
            }
            suns.empty();
            lamps.empty();
            steps.empty();
            doings.empty();
            men.empty();
            for (int i = 0; i < LAWS; i++) {
                laws[i].empty();
            }
            rows = 5;
            columns = 5;
            herRow = 0;
            herColumn = 0;
            wallsTold = 0;
            cloud = 0;
            seed = 0;
            knots = 0;
        }

        /** Which SUN each HOUR of the day has, so that no HOUR must look for it. */
        void settleSuns() {
            for (int hour = 0; hour < DAY; hour++) {
                int best = NONE;
                int since = DAY;
                for (int sun = 0; sun < suns.size(); sun++) {
                    int ago = Math.floorMod(hour - suns.get(sun, SUN_HOUR), DAY);
                    if (ago < since) {
                        since = ago;
                        best = sun;
                    }
                }
                sunAt[hour] = best;
            }
        }

        int sunOf(int hour) {
            return sunAt[Math.floorMod(hour, DAY)];
        }

        boolean isCell(int row, int column) {
            return row >= 0 && row < rows && column >= 0 && column < columns;
        }

        boolean isWall(int row, int column) {
            return isCell(row, column) && walls[row * SIDE_MOST + column];
        }

        void setWall(int row, int column) {
            if (isCell(row, column)) {
                walls[row * SIDE_MOST + column] = true;
                wallsTold++;
            }
        }

        int worthOf(int done) {
            int worth = 0;
            for (int i = 0; i < doings.size(); i++) {
                if ((done >> i & 1) == 1) {
                    worth += doings.get(i, DOING_WORTH);
                }
            }
            return worth;
        }
    }

    /** A law's E, each sign behind its sides: numbers as they are, other KNOTS below 0. */
    private static final class Law {
        private static final int KNOTS_MOST = 64;
        private static final long LIMIT = 1000000000000L;

        private final int[] knots = new int[KNOTS_MOST];
        private final long[] pile = new long[KNOTS_MOST];
        private int size;

        void empty() {
            size = 0;
        }

        boolean isTold() {
            return size > 0;
        }

        void add(int knot) {
            if (size < KNOTS_MOST) {
                knots[size] = knot;
                size++;
            }
        }

        /** ERROR, too, if there is no such law. */
        long workOut(int[] names) {
            int height = 0;
            for (int i = 0; i < size; i++) {
                int kind = -knots[i];
                boolean isLeaf = kind <= 0 || Reader.isName(kind);
                int sides = isLeaf ? 0 : kind == Reader.NOT ? 1 : 2;
                int base = height - sides;
                if (base < 0 || base >= KNOTS_MOST) {
                    return ERROR;
                }
                long value;
                if (isLeaf) {
                    value = kind <= 0 ? -kind : names[kind - Reader.FAR];
                } else if (sides == 1) {
                    value = pile[base] == 0 ? 1 : 0;
                } else {
                    value = join(kind, pile[base], pile[base + 1]);
                }
                if (value > LIMIT || value < -LIMIT) {
                    return ERROR;
                }
                pile[base] = value;
                height = base + 1;
            }
            return height == 1 ? pile[0] : ERROR;
        }

        private static long join(int kind, long a, long b) {
            switch (kind) {
                case Reader.PLUS:
                    return a + b;
                case Reader.MINUS:
                    return a - b;
                case Reader.TIMES:
                    // asked by division, because the product may be beyond a long
                    return a != 0 && (b < 0 ? -b : b) > LIMIT / (a < 0 ? -a : a) ? ERROR : a * b;
                case Reader.OVER:
                    return b == 0 ? ERROR : a / b;
                case Reader.LESS:
                    return a < b ? 1 : 0;
                case Reader.LESS_OR_LIKE:
                    return a <= b ? 1 : 0;
                case Reader.LIKE:
                    return a == b ? 1 : 0;
                case Reader.UNLIKE:
                    return a != b ? 1 : 0;
                case Reader.MORE_OR_LIKE:
                    return a >= b ? 1 : 0;
                case Reader.MORE:
                    return a > b ? 1 : 0;
                case Reader.AND:
                    return a != 0 && b != 0 ? 1 : 0;
                case Reader.OR:
                    return a != 0 || b != 0 ? 1 : 0;
                default:
                    return ERROR;
            }
        }
    }

    /** Reads a TEXT; behind the first FAULT all is as if the text ended there. */
    private static final class Reader {
        private static final int END = 0;
        private static final int BAD = 1;
        private static final int OWN = 2;
        private static final int NUMBER = 3;
        private static final int SEMICOLON = 4;
        private static final int OPEN = 5;
        private static final int CLOSE = 6;
        private static final int PLUS = 7;
        private static final int MINUS = 8;
        private static final int TIMES = 9;
        private static final int OVER = 10;
        private static final int LESS = 11;
        private static final int LESS_OR_LIKE = 12;
        private static final int LIKE = 13;
        private static final int UNLIKE = 14;
        private static final int MORE_OR_LIKE = 15;
        private static final int MORE = 16;
        // The kinds from here on are the words, in the order of LANGUAGE.
        private static final int ROOM = 20;
        private static final int HER = 21;
        private static final int WALL = 22;
        private static final int SUN = 23;
        private static final int LAMP = 24;
        private static final int STEP = 25;
        private static final int DOING = 26;
        private static final int MAN = 27;
        private static final int CLOUD = 28;
        private static final int SEED = 29;
        private static final int LAW = 30;
        private static final int LONG = 31;
        private static final int TIRED = 33;
        private static final int OR = 34;
        private static final int AND = 35;
        private static final int NOT = 36;
        private static final int FAR = 37;
        private static final int HOUR = 43;
        private static final String LANGUAGE =
            "room her wall sun lamp step doing man cloud seed law long fond tired or and not far met trod done weary lit hour ";
        private static final int WORDS = 24;
        private static final int LETTERS_MOST = 6;
        private static final int TOP_SHIFT = 25;
        private static final int OPEN_MOST = 8;
        private static final int NUMBER_MOST = 9999;
        private static final int BEYOND_ALL = 1000000;
        private static final int WAITING_MOST = Law.KNOTS_MOST + OPEN_MOST;
        private static final int RANK_OF_NOT = 3;
        private static final int RANK_OF_COMPARISON = 4;

        private static final int MISPLACED = 1;
        private static final int TOO_MUCH = 2;
        private static final int TOLD_ALREADY = 3;
        private static final int OCCUPIED = 5;

        private final int[] words = new int[WORDS];
        private final int[] waiting = new int[WAITING_MOST];
        private byte[] bytes = new byte[0];
        private int length;
        private int place;
        private int kind;
        private int value;
        private int at;
        private int takenAt;
        private Told draft;
        private Law law;
        private int waits;
        private int opened;
        private boolean isHerTold;
        private boolean isCloudTold;
        private boolean isSeedTold;
        private int fault;
        private int faultAt;
        private int lines;

        Reader(Told draft) {
            this.draft = draft;
            this.law = draft.laws[LAW_LONG];
            int word = 0;
            int letters = 0;
            int shift = TOP_SHIFT;
            for (int i = 0; i < LANGUAGE.length() && word < WORDS; i++) {
                char sign = LANGUAGE.charAt(i);
                if (sign == ' ') {
                    words[word] = letters;
                    word++;
                    letters = 0;
                    shift = TOP_SHIFT;
                } else {
                    letters |= sign - 'a' + 1 << shift;
                    shift -= 5;
                }
            }
        }

        static boolean isName(int kind) {
            return kind >= FAR && kind <= HOUR;
        }

        void begin(byte[] tape, int n, Told into) {
            bytes = tape;
            length = Math.min(n, tape.length);
            place = 0;
            at = 0;
            draft = into;
            draft.clean();
            isHerTold = false;
            isCloudTold = false;
            isSeedTold = false;
            fault = 0;
            faultAt = NONE;
            lines = 0;
            next();
        }

        boolean hasMore() {
            return kind != END;
        }

        private void fail(int which, int where) {
            if (fault == 0) {
                fault = which;
                faultAt = where;
            }
            // nothing more is read, so that the first FAULT stays the first
            kind = END;
            place = length;
        }

        private void expect(int wanted) {
            if (kind == wanted) {
                next();
            } else {
                fail(MISPLACED, at);
            }
        }

        void readLine() {
            switch (kind) {
                case ROOM:
                    readRoom();
                    break;
                case HER:
                    readHer();
                    break;
                case WALL:
                    readWall();
                    break;
                case SUN:
                    readSun();
                    break;
                case LAMP:
                    readLamp();
                    break;
                case STEP:
                    readStep();
                    break;
                case DOING:
                    readDoing();
                    break;
                case MAN:
                    readMan();
                    break;
                case CLOUD:
                    readCloud();
                    break;
                case SEED:
                    readSeed();
                    break;
                case LAW:
                    readLaw();
                    break;
                default:
                    fail(MISPLACED, at);
                    break;
            }
            expect(SEMICOLON);
            lines++;
        }

        private void readRoom() {
            if (lines > 0) {
                fail(MISPLACED, at);
            }
            next();
            draft.rows = number(1, SIDE_MOST);
            draft.columns = number(1, SIDE_MOST);
        }

        private void readHer() {
            if (draft.wallsTold > 0) {
                fail(MISPLACED, at);
            }
            once(isHerTold);
            isHerTold = true;
            draft.herRow = number(0, draft.rows - 1);
            draft.herColumn = number(0, draft.columns - 1);
        }

        private void readWall() {
            takeWord(draft.wallsTold >= WALLS_MOST);
            int row = number(0, draft.rows - 1);
            int column = number(0, draft.columns - 1);
            if (draft.isWall(row, column) || row == draft.herRow && column == draft.herColumn) {
                fail(OCCUPIED, takenAt);
            }
            draft.setWall(row, column);
        }

        private void readSun() {
            Table suns = draft.suns;
            takeWord(suns.isFull());
            int hour = number(0, DAY - 1);
            if (suns.find(SUN_HOUR, hour) != NONE) {
                fail(TOLD_ALREADY, takenAt);
            }
            suns.put(SUN_HOUR, hour);
            suns.put(SUN_WAY, number(0, WAYS - 1));
            suns.put(SUN_LENGTH, number(0, 7));
            suns.close();
        }

        private void readLamp() {
            Table lamps = draft.lamps;
            takeWord(lamps.isFull());
            takeName(lamps);
            lamps.put(LAMP_ROW, number(0, draft.rows - 1));
            lamps.put(LAMP_COLUMN, number(0, draft.columns - 1));
            lamps.put(LAMP_RANGE, number(1, 9));
            lamps.close();
        }

        private void readStep() {
            Table steps = draft.steps;
            takeWord(steps.isFull());
            steps.put(STEP_HOUR, number(0, HOURS_MOST));
            steps.put(STEP_WAY, number(0, WAYS - 1));
            steps.close();
        }

        private void readDoing() {
            Table doings = draft.doings;
            takeWord(doings.isFull());
            takeName(doings);
            doings.put(DOING_WHOSE, number(0, 1));
            doings.put(DOING_ROW, number(0, draft.rows - 1));
            doings.put(DOING_COLUMN, number(0, draft.columns - 1));
            doings.put(DOING_WORTH, number(1, 99));
            doings.close();
        }

        private void readMan() {
            Table men = draft.men;
            takeWord(men.isFull());
            takeName(men);
            men.put(MAN_ROW, number(0, draft.rows - 1));
            men.put(MAN_COLUMN, number(0, draft.columns - 1));
            men.close();
        }

        private void readCloud() {
            once(isCloudTold);
            isCloudTold = true;
            draft.cloud = number(0, 100);
        }

        private void readSeed() {
            once(isSeedTold);
            isSeedTold = true;
            draft.seed = number(0, 99999);
        }

        private void readLaw() {
            next();
            if (kind < LONG || kind > TIRED) {
                fail(MISPLACED, at);
                return;
            }
            law = draft.laws[kind - LONG];
            once(law.isTold());
            readE();
        }

        /** A word that may come but once. */
        private void once(boolean isTold) {
            if (isTold) {
                fail(TOLD_ALREADY, at);
            }
            next();
        }

        /** The word of a LINE of which there may be only so many. */
        private void takeWord(boolean isFull) {
            if (isFull) {
                fail(TOO_MUCH, at);
            }
            next();
        }

        private void takeName(Table table) {
            if (kind != OWN) {
                fail(MISPLACED, at);
            } else if (table.find(NAME, value) != NONE) {
                fail(TOLD_ALREADY, at);
            }
            table.put(NAME, value);
            next();
        }

        /** The least one behind a FAULT, so that what is told stays within its bounds. */
        private int number(int least, int most) {
            int number = value;
            if (kind != NUMBER) {
                fail(MISPLACED, at);
                return least;
            }
            if (number < least || number > most) {
                fail(TOO_MUCH, at);
                return least;
            }
            next();
            return number;
        }

        /** Signs wait until what stands right of them is read: a law has them behind both sides. */
        private void readE() {
            waits = 0;
            opened = 0;
            boolean isPartDue = true;
            for (int i = 0; i < TAPE_MOST && fault == 0; i++) {
                if (isPartDue) {
                    isPartDue = takePart();
                } else if (kind == CLOSE && opened > 0) {
                    takeClose();
                } else if (rankOf(kind) > 0 && kind != NOT) {
                    takeSign();
                    isPartDue = true;
                } else {
                    break;
                }
            }
            release(1);
            if (opened > 0) {
                fail(MISPLACED, at);
            }
        }

        /** Whether a part is still due behind what was taken. */
        private boolean takePart() {
            if (kind == NUMBER && value > NUMBER_MOST || kind == OPEN && opened >= OPEN_MOST) {
                fail(TOO_MUCH, at);
            } else if (kind == NUMBER || isName(kind)) {
                law.add(kind == NUMBER ? value : -kind);
                countKnot();
                next();
                return false;
            } else if (kind == OPEN) {
                hold(OPEN);
                opened++;
                next();
            } else if (kind == NOT && rankOf(lastWaiting()) <= RANK_OF_NOT) {
                hold(NOT);
                countKnot();
                next();
            } else {
                fail(MISPLACED, at);
            }
            return true;
        }

        private void takeClose() {
            release(1);
            waits--;
            opened--;
            next();
        }

        private void takeSign() {
            int rank = rankOf(kind);
            boolean isComparison = rank == RANK_OF_COMPARISON;
            release(isComparison ? rank + 1 : rank);
            if (isComparison && rankOf(lastWaiting()) == rank) {
                fail(MISPLACED, at);
                return;
            }
            hold(kind);
            countKnot();
            next();
        }

        /** How tightly a sign binds; 0: it is none. */
        private static int rankOf(int kind) {
            switch (kind) {
                case OR:
                    return 1;
                case AND:
                    return 2;
                case NOT:
                    return RANK_OF_NOT;
                case PLUS:
                case MINUS:
                    return 5;
                case TIMES:
                case OVER:
                    return 6;
                default:
                    return kind >= LESS && kind <= MORE ? RANK_OF_COMPARISON : 0;
            }
        }

        private int lastWaiting() {
            return waits > 0 && waits <= WAITING_MOST ? waiting[waits - 1] : END;
        }

        private void hold(int sign) {
            if (waits < WAITING_MOST) {
                waiting[waits] = sign;
                waits++;
            }
        }

        /** The signs that wait and bind so tightly at least; a '(' stops it. */
        private void release(int rank) {
            for (int i = 0; i < WAITING_MOST && rankOf(lastWaiting()) >= rank; i++) {
                law.add(-lastWaiting());
                waits--;
            }
        }

        private void countKnot() {
            if (draft.knots >= Law.KNOTS_MOST) {
                fail(TOO_MUCH, at);
            } else {
                draft.knots++;
            }
        }

        private void next() {
            takenAt = at;
            while (place < length && (bytes[place] == ' ' || bytes[place] == '\n')) {
                place++;
            }
            at = place;
            value = 0;
            if (place >= length) {
                kind = END;
            } else if (isLetter(bytes[place])) {
                scanWord();
            } else if (isDigit(bytes[place])) {
                scanNumber();
            } else {
                scanSign();
            }
        }

        private static boolean isLetter(byte sign) {
            return sign >= 'a' && sign <= 'z';
        }

        private static boolean isDigit(byte sign) {
            return sign >= '0' && sign <= '9';
        }

        private void scanWord() {
            int many = 0;
            for (; place < length && isLetter(bytes[place]); place++) {
                if (many < LETTERS_MOST) {
                    value |= bytes[place] - 'a' + 1 << TOP_SHIFT - 5 * many;
                }
                many++;
            }
            kind = many > LETTERS_MOST ? BAD : OWN;
            for (int i = 0; i < WORDS && kind == OWN; i++) {
                if (words[i] == value) {
                    kind = ROOM + i;
                }
            }
        }

        private void scanNumber() {
            kind = NUMBER;
            for (; place < length && isDigit(bytes[place]); place++) {
                value = Math.min(BEYOND_ALL, value * 10 + bytes[place] - '0');
            }
        }

        private void scanSign() {
            int sign = bytes[place];
            place++;
            int behind = place < length ? bytes[place] : 0;
            switch (sign) {
                case ';':
                    kind = SEMICOLON;
                    break;
                case '(':
                    kind = OPEN;
                    break;
                case ')':
                    kind = CLOSE;
                    break;
                case '+':
                    kind = PLUS;
                    break;
                case '-':
                    kind = MINUS;
                    break;
                case '*':
                    kind = TIMES;
                    break;
                case '/':
                    kind = OVER;
                    break;
                case '<':
                    kind = behind == '=' ? LESS_OR_LIKE : behind == '>' ? UNLIKE : LESS;
                    break;
                case '=':
                    kind = LIKE;
                    break;
                case '>':
                    kind = behind == '=' ? MORE_OR_LIKE : MORE;
                    break;
                default:
                    kind = BAD;
                    break;
            }
            if (kind == LESS_OR_LIKE || kind == UNLIKE || kind == MORE_OR_LIKE) {
                place++;
            }
        }
    }

    /** What hours change. Where it falls is found anew each time and no part of what is kept. */
    private static final class World {
        private static final int TIRED_MOST = 99;
        private static final int OFTEN_MOST = 999;

        private final int[] met = new int[MEN_MOST];
        private final int[] trod = new int[MEN_MOST];
        private final int[] fond = new int[MEN_MOST];
        private int hour;
        private int row;
        private int column;
        private int tired;
        private int lit;
        private int done;
        private int refused;
        private int ones;
        private int number;
        private int itRow;
        private int itColumn;
        private boolean one;
        private int far;

        void begin(Told told, int atRow, int atColumn) {
            hour = 0;
            row = atRow;
            column = atColumn;
            tired = 0;
            lit = (1 << told.lamps.size()) - 1;
            done = 0;
            refused = 0;
            ones = 0;
            number = told.seed;
            for (int man = 0; man < MEN_MOST; man++) {
                met[man] = 0;
                trod[man] = 0;
                fond[man] = 0;
            }
        }

        void become(World other) {
            hour = other.hour;
            row = other.row;
            column = other.column;
            tired = other.tired;
            lit = other.lit;
            done = other.done;
            refused = other.refused;
            ones = other.ones;
            number = other.number;
            for (int man = 0; man < MEN_MOST; man++) {
                met[man] = other.met[man];
                trod[man] = other.trod[man];
                fond[man] = other.fond[man];
            }
        }

        static int onceMore(int often) {
            return Math.min(OFTEN_MOST, often + 1);
        }

        void tireBy(int more) {
            tired = Math.min(TIRED_MOST, tired + more);
        }

        void please(int man, int more) {
            fond[man] = Math.min(OFTEN_MOST, fond[man] + more);
        }

        int fondInAll() {
            int sum = 0;
            for (int man = 0; man < MEN_MOST; man++) {
                sum += fond[man];
            }
            return sum;
        }

        boolean isSheAt(int atRow, int atColumn) {
            return row == atRow && column == atColumn;
        }

        boolean isItApartAt(int atRow, int atColumn) {
            return !one && itRow == atRow && itColumn == atColumn;
        }
    }

    /** How hours go by in a world. */
    private static final class Course {
        private static final int TOO_TIRED = 9;
        private static final int NAMES = 7;

        private final int[] names = new int[NAMES];
        private Told told;

        Course(Told told) {
            this.told = told;
        }

        void passAll(World world, int hours, int how) {
            for (int i = 0; i < hours; i++) {
                pass(world, how);
            }
        }

        void pass(World world, int how) {
            boolean clouds = areClouds(world, how);
            Table steps = told.steps;
            for (int i = 0; i < steps.size(); i++) {
                if (steps.get(i, STEP_HOUR) == world.hour) {
                    attempt(world, steps.get(i, STEP_WAY), how);
                }
            }
            fall(world, clouds, how);
            if (world.one) {
                world.ones++;
            }
            finishDoings(world);
            meetMen(world);
            if (world.hour % DAY == DAY - 1) {
                world.tired = 0;
            }
            world.hour++;
        }

        private boolean areClouds(World world, int how) {
            if ((how & CLOUDLESS) != 0) {
                return false;
            }
            if ((how & DRAWN) == 0) {
                return told.cloud >= 50;
            }
            if (told.cloud == 0 || told.cloud == 100 || told.suns.size() == 0) {
                return told.cloud == 100;
            }
            world.number = (int) (world.number * 1103515245L + 12345L & 0x7fffffffL);
            return world.number / 65536 % 100 < told.cloud;
        }

        void attempt(World world, int way, int how) {
            if (!isOpen(world, way, how)) {
                world.refused++;
                return;
            }
            world.row += downBy(way);
            world.column += rightBy(way);
            if ((how & TIRELESS) == 0) {
                tell(world, 0, 0, 0);
                world.tireBy(within(LAW_TIRED, 9, 1));
            }
        }

        boolean isOpen(World world, int way, int how) {
            int row = world.row + downBy(way);
            int column = world.column + rightBy(way);
            boolean isFree = (how & WALLLESS) != 0 || !told.isWall(row, column);
            return told.isCell(row, column) && isFree && world.tired < TOO_TIRED;
        }

        void fallNow(World world) {
            fall(world, told.cloud >= 50, AS_IT_GOES);
        }

        void fall(World world, boolean clouds, int how) {
            int sun = clouds || (how & SUNLESS) != 0 ? NONE : told.sunOf(world.hour);
            int way;
            world.far = told.suns.get(sun, SUN_LENGTH);
            if (world.far > 0) {
                way = told.suns.get(sun, SUN_WAY);
            } else {
                int lamp = nearestLamp(world);
                way = wayFrom(world, lamp);
                world.far = lamp == NONE ? 0 : distance(world, lamp);
            }
            tell(world, world.far, 0, 0);
            // whatever the law says, they are ONE without a LIGHT and in the LAMP's cell
            int cells = world.far == 0 ? 0 : within(LAW_LONG, 7, world.far);
            world.itRow = Math.max(0, Math.min(told.rows - 1, world.row + cells * downBy(way)));
            world.itColumn = Math.max(0, Math.min(told.columns - 1, world.column + cells * rightBy(way)));
            world.one = world.isSheAt(world.itRow, world.itColumn);
        }

        private int nearestLamp(World world) {
            int nearest = NONE;
            int least = 0;
            for (int lamp = 0; lamp < told.lamps.size(); lamp++) {
                int far = distance(world, lamp);
                boolean reaches = (world.lit >> lamp & 1) == 1 && far <= told.lamps.get(lamp, LAMP_RANGE);
                if (reaches && (nearest == NONE || far < least)) {
                    nearest = lamp;
                    least = far;
                }
            }
            return nearest;
        }

        private int distance(World world, int lamp) {
            return Math.abs(world.row - told.lamps.get(lamp, LAMP_ROW))
                + Math.abs(world.column - told.lamps.get(lamp, LAMP_COLUMN));
        }

        private int wayFrom(World world, int lamp) {
            int down = world.row - told.lamps.get(lamp, LAMP_ROW);
            int right = world.column - told.lamps.get(lamp, LAMP_COLUMN);
            if (Math.abs(down) >= Math.abs(right)) {
                return down < 0 ? 0 : 2;
            }
            return right < 0 ? 3 : 1;
        }

        private void finishDoings(World world) {
            Table doings = told.doings;
            for (int i = 0; i < doings.size(); i++) {
                int row = doings.get(i, DOING_ROW);
                int column = doings.get(i, DOING_COLUMN);
                boolean isHers = doings.get(i, DOING_WHOSE) == 0;
                if (isHers ? world.isSheAt(row, column) : world.isItApartAt(row, column)) {
                    world.done |= 1 << i;
                }
            }
        }

        private void meetMen(World world) {
            for (int man = 0; man < told.men.size() && man < MEN_MOST; man++) {
                int row = told.men.get(man, MAN_ROW);
                int column = told.men.get(man, MAN_COLUMN);
                if (world.isSheAt(row, column)) {
                    world.met[man] = World.onceMore(world.met[man]);
                } else if (world.isItApartAt(row, column)) {
                    world.trod[man] = World.onceMore(world.trod[man]);
                    tell(world, 0, world.met[man], world.trod[man]);
                    world.please(man, within(LAW_FOND, 99, 1));
                }
            }
        }

        /** The NAMES for the law that is worked out next, in the order of the language. */
        void tell(World world, int far, int met, int trod) {
            names[0] = far;
            names[1] = met;
            names[2] = trod;
            names[3] = Integer.bitCount(world.done);
            names[4] = world.tired;
            names[5] = Integer.bitCount(world.lit);
            names[6] = world.hour % DAY;
        }

        long workOut(int which) {
            return told.laws[which].workOut(names);
        }

        private int within(int which, int most, int without) {
            long value = told.laws[which].workOut(names);
            return value == ERROR ? without : (int) Math.max(0, Math.min(most, value));
        }
    }

    /** Lays out four HOURS so that most is done. */
    private static final class Planner {
        private static final int STAY = 4;

        private final int[] best = new int[PLAN_HOURS];
        private final int[] laid = new int[PLAN_HOURS];
        private final World[] worlds =
            {new World(), new World(), new World(), new World(), new World()};
        private final Course course;
        private int most;
        private int undone;

        Planner(Course course) {
            this.course = course;
        }

        void search(World now) {
            most = NONE;
            undone = course.told.worthOf(~now.done);
            worlds[0].become(now);
            lay(0);
        }

        private void lay(int depth) {
            if (depth < 0 || depth >= PLAN_HOURS) {
                weigh();
                return;
            }
            World next = worlds[depth + 1];
            // where all that can be done is done, no later plan is better
            for (int way = 0; way <= STAY && most < undone; way++) {
                laid[depth] = way;
                next.become(worlds[depth]);
                if (way < STAY) {
                    course.attempt(next, way, AS_IT_GOES);
                }
                course.pass(next, AS_IT_GOES);
                lay(depth + 1);
            }
        }

        private void weigh() {
            int worth = undone - course.told.worthOf(~worlds[PLAN_HOURS].done);
            // plans come by their WAYS, so only more is better
            if (worth > most) {
                most = worth;
                for (int i = 0; i < PLAN_HOURS; i++) {
                    best[i] = laid[i];
                }
            }
        }
    }

    /** The fewest steps from cell to cell. */
    private static final class Paths {
        private final int[] steps = new int[CELLS_MOST];
        private final int[] queue = new int[CELLS_MOST];
        private int queued;

        int fewest(Told told, int from, int to) {
            for (int i = 0; i < CELLS_MOST; i++) {
                steps[i] = NONE;
            }
            queued = 0;
            reach(from, 0);
            for (int i = 0; i < CELLS_MOST && i < queued; i++) {
                int row = queue[i] / SIDE_MOST;
                int column = queue[i] % SIDE_MOST;
                for (int way = 0; way < WAYS; way++) {
                    int nextRow = row + downBy(way);
                    int nextColumn = column + rightBy(way);
                    if (told.isCell(nextRow, nextColumn) && !told.isWall(nextRow, nextColumn)) {
                        reach(nextRow * SIDE_MOST + nextColumn, steps[queue[i]] + 1);
                    }
                }
            }
            return to >= 0 && to < CELLS_MOST ? steps[to] : NONE;
        }

        private void reach(int cell, int after) {
            if (cell >= 0 && cell < CELLS_MOST && steps[cell] == NONE && queued < CELLS_MOST) {
                steps[cell] = after;
                queue[queued] = cell;
                queued++;
            }
        }
    }

    /** What stood before each call that can be undone. */
    private static final class Log {
        private static final int WIDTH = 5;

        private final int[] notes = new int[UNDO_MOST * WIDTH];
        private int size;

        void forget() {
            size = 0;
        }

        void note(World world) {
            if (size >= UNDO_MOST) {
                dropOldest();
            }
            int base = size * WIDTH;
            notes[base] = world.row;
            notes[base + 1] = world.column;
            notes[base + 2] = world.tired;
            notes[base + 3] = world.lit;
            notes[base + 4] = world.done;
            size++;
        }

        private void dropOldest() {
            for (int i = WIDTH; i < UNDO_MOST * WIDTH; i++) {
                notes[i - WIDTH] = notes[i];
            }
            size = UNDO_MOST - 1;
        }

        /** How many are left; NONE: there was none. */
        int takeBack(World world) {
            if (size <= 0) {
                return NONE;
            }
            size--;
            int base = size * WIDTH;
            world.row = notes[base];
            world.column = notes[base + 1];
            world.tired = notes[base + 2];
            world.lit = notes[base + 3];
            world.done = notes[base + 4];
            return size;
        }
    }

    /** What was SEEN and by how many of these it is KNOWN. */
    private static final class Sight {
        private static final int HOURS = 0;
        private static final int WHO = 1;
        private static final int ROW = 2;
        private static final int COLUMN = 3;
        private static final int IS = 4;
        // One that strikes has this in place of who was seen, and whom it strikes as its ROW.
        private static final int STRIKES = 2;

        private final Table seen = new Table(SEEN_MOST, 5);
        private final boolean[] struck = new boolean[SEEN_MOST];
        private int knownBy;

        void forget() {
            seen.empty();
            knownBy = NONE;
        }

        int size() {
            return seen.size();
        }

        int reach() {
            return knownBy == NONE ? seen.size() : knownBy;
        }

        int add(int hours, int who, int row, int column, boolean is) {
            if (seen.isFull()) {
                return NONE;
            }
            seen.put(HOURS, hours);
            seen.put(WHO, who);
            seen.put(ROW, row);
            seen.put(COLUMN, column);
            seen.put(IS, is ? 1 : 0);
            seen.close();
            return seen.size() - 1;
        }

        int strike(int which) {
            return seen.has(which) ? add(0, STRIKES, which, 0, true) : NONE;
        }

        /** From the last one on, because what is STRUCK itself doesn't strike. */
        void settle() {
            for (int i = 0; i < SEEN_MOST; i++) {
                struck[i] = false;
            }
            for (int i = Math.min(reach(), SEEN_MOST) - 1; i >= 0; i--) {
                int target = seen.get(i, ROW);
                if (seen.get(i, WHO) == STRIKES && !struck[i] && target >= 0 && target < i) {
                    struck[target] = true;
                }
            }
        }

        private boolean isKnown(int i) {
            return i < SEEN_MOST && !struck[i] && seen.get(i, WHO) != STRIKES;
        }

        int lastHour() {
            int last = 0;
            for (int i = 0; i < reach(); i++) {
                if (isKnown(i)) {
                    last = Math.max(last, seen.get(i, HOURS));
                }
            }
            return last;
        }

        /** Whether all that is KNOWN behind so many hours is so; it is where it fell in the last one. */
        boolean agrees(int hours, World world) {
            for (int i = 0; i < reach(); i++) {
                if (isKnown(i) && seen.get(i, HOURS) == hours) {
                    boolean isHer = seen.get(i, WHO) == 0;
                    int row = isHer ? world.row : world.itRow;
                    int column = isHer ? world.column : world.itColumn;
                    boolean is = row == seen.get(i, ROW) && column == seen.get(i, COLUMN);
                    if (is != (seen.get(i, IS) == 1)) {
                        return false;
                    }
                }
            }
            return true;
        }
    }
}
