import java.util.Arrays;
import java.util.NoSuchElementException;

/**
 * A ship's steering gear that may hunt, the TEXT of its helmsman, the WAKE that was seen and the
 * trials. The words in capitals are those of the project's document.
 */
public final class HuntingRudder {
    public static final int NONE = -1;

    private static final int NO_VALUE = Integer.MIN_VALUE;
    private static final int THERE_IS_NONE = -2;
    private static final int OFF_LEAST = -1800;
    private static final int OFF_MOST = 1799;
    private static final int LED_STEPS_MOST = 1500;
    private static final int STEPS_MOST = 200;

    private final Settings settings = new Settings();
    private final Settings tried = new Settings();
    private final State state = new State();
    private final Track track = new Track();
    private final Wake wake = new Wake();
    private final Groups groups = new Groups();
    private final Drill way = new Drill();
    private final Trial trial = new Trial();
    private final TextReader reader = new TextReader();
    private Text helm = new Text();

    public HuntingRudder() {
    }

    public int feed(int a, int b, int c, int d, int e) {
        Tape tape = reader.tape;
        if (!tape.hasRoom()) {
            return NONE;
        }
        tape.put(a);
        tape.put(b);
        tape.put(c);
        tape.put(d);
        tape.put(e);
        return tape.held;
    }

    public int text(int n) {
        if (n < 0 || n > reader.tape.held) {
            return THERE_IS_NONE;
        }
        reader.open(n);
        boolean good = true;
        for (int left = n; left > 0 && good && !reader.atEnd(); left--) {
            good = reader.readLine();
        }
        if (!good || !reader.close()) {
            return NONE;
        }
        helm = reader.exchange(helm);
        wake.forget();
        return helm.lines;
    }

    public int fault(int what) {
        if (what == 0) {
            return reader.fault;
        }
        return what == 1 ? reader.faultPlace : NONE;
    }

    public boolean part(int part, int value) {
        if (!settings.setPart(part, value)) {
            return false;
        }
        wake.forget();
        return true;
    }

    public boolean ship(int what, int value) {
        if (!settings.setShip(what, value)) {
            return false;
        }
        wake.forget();
        return true;
    }

    public int row(int row, int what) throws IndexOutOfBoundsException, NoSuchElementException {
        if (!helm.hasRow(row)) {
            throw new IndexOutOfBoundsException("no such ROW");
        }
        if (what == 0) {
            return helm.rowSteps[row];
        }
        if (what == 1) {
            return helm.rowLengths[row];
        }
        if (what < 2 || what - 2 >= helm.rowLengths[row]) {
            throw new NoSuchElementException("no such what");
        }
        return helm.rowOrder(row, what - 2);
    }

    public int led(int off, int n, int what) {
        if (!isOff(off) || n < 0 || n > LED_STEPS_MOST || what < 0 || what > State.ORDER) {
            return NO_VALUE;
        }
        state.start(off);
        boolean moves = true;
        for (int step = 0; step < n && moves; step++) {
            moves = state.goOn(helm, settings);
        }
        return state.look(what);
    }

    public int steer(int row, int off, int n, int what) {
        if (!helm.hasRow(row) || !isOff(off) || n < 0 || n > LED_STEPS_MOST || what < 0 || what > State.ORDER) {
            return NO_VALUE;
        }
        state.start(off);
        for (int step = 1; step <= n; step++) {
            state.step(helm.orderOfRow(row, step), settings);
        }
        return state.look(what);
    }

    public int hunt(int off, int what) {
        if (!isOff(off) || what < 0 || what > 3) {
            return NONE;
        }
        track.follow(off, helm, settings);
        switch (what) {
            case 0:
                return track.kind;
            case 1:
                return track.first;
            case 2:
                return track.period;
            default:
                return track.swing;
        }
    }

    public int worst(int a, int b, int c, int n, int what) {
        if (!isOff(a) || !isOff(b) || a > b || c < 1 || c > 3600) {
            return NONE;
        }
        if (n < 0 || n > STEPS_MOST || what < 0 || what > 1) {
            return NONE;
        }
        int most = NONE;
        int from = a;
        // No OFF is further off than OFF_LEAST: behind that no start can be worse.
        for (int off = a; off <= b && most < -OFF_LEAST; off += c) {
            int far = farthest(off, n, settings, OFF_MOST);
            if (far > most) {
                most = far;
                from = off;
            }
        }
        return what == 0 ? most : from;
    }

    public int holds(int bound, int n) {
        if (bound < 0 || bound > -OFF_LEAST || n < 1 || n > 500) {
            return NONE;
        }
        tried.copy(settings);
        for (int speed = 1; speed <= 20; speed++) {
            tried.setShip(Settings.SPEED, speed);
            if (farthest(0, n, tried, bound) <= bound) {
                return speed;
            }
        }
        return THERE_IS_NONE;
    }

    /** The greatest OFF without sign behind 0 .. n STEPS; it may stop at one that is above enough. */
    private int farthest(int from, int n, Settings by, int enough) {
        state.start(from);
        int far = Math.abs(from);
        boolean moves = true;
        for (int step = 0; step < n && far <= enough && moves; step++) {
            moves = state.goOn(helm, by);
            far = Math.max(far, Math.abs(state.off));
        }
        return far;
    }

    public int mark(int step, int off) {
        if (step < 1 || step > STEPS_MOST || !isOff(off)) {
            return NONE;
        }
        return wake.addMark(step, off) ? wake.marks : NONE;
    }

    public int wipe() {
        int were = wake.marks;
        wake.marks = 0;
        wake.forget();
        return were;
    }

    public int fits(int d, int off, int what) {
        if (!isDistance(d) || !isOff(off) || what < 0 || what > 3) {
            return NONE;
        }
        wake.find(d, off, helm, settings);
        switch (what) {
            case 0:
                return wake.fewest;
            case 1:
                return wake.suspects;
            case 2:
                return wake.inSome;
            default:
                return wake.inAll;
        }
    }

    public int suspect(int d, int off, int k, int what) {
        if (!isDistance(d) || !isOff(off) || k < 0 || what < 0 || what > 3) {
            return NONE;
        }
        wake.find(d, off, helm, settings);
        return k < wake.suspects ? Wake.look(wake.suspectAt(k), what) : NONE;
    }

    public int parts(int d, int off, int n, int what) {
        if (!isDistance(d) || !isOff(off) || n < 1 || n > STEPS_MOST || what < 0 || what > 1) {
            return NONE;
        }
        wake.find(d, off, helm, settings);
        if (wake.suspects < 2) {
            return NONE;
        }
        int best = NONE;
        int least = NONE;
        for (int row = 0; row < helm.rows; row++) {
            int greatest = groups.greatest(row, n, wake, helm, settings);
            if (best == NONE || greatest < least) {
                best = row;
                least = greatest;
            }
        }
        return what == 0 ? best : least;
    }

    public int named(int letters) {
        return helm.gearOf(letters);
    }

    public int safe(int gears) {
        if (!helm.hasGears(gears)) {
            return NONE;
        }
        return (int) (helm.safeTable >>> gears & 1);
    }

    public int drill(int a, int b, int what) {
        if (!helm.hasGears(a) || !helm.hasGears(b) || what < 0) {
            return NONE;
        }
        if (!way.find(a, b, helm)) {
            return THERE_IS_NONE;
        }
        return what == 0 ? way.length : way.gearAt(what - 1);
    }

    public boolean begin(int off) {
        if (!isOff(off)) {
            return false;
        }
        trial.start(off);
        return true;
    }

    public int order(int order) {
        if (order < -State.STOP || order > State.STOP || !trial.step(order, settings)) {
            return NO_VALUE;
        }
        return trial.state.off;
    }

    public int back() {
        return trial.takeBack() ? trial.steps : NONE;
    }

    public int now(int what) {
        if (trial.steps == NONE || what < 0 || what > 5) {
            return NO_VALUE;
        }
        return what == 5 ? trial.steps : trial.state.look(what);
    }

    public int count(int what) {
        if (what >= 9 && what < 9 + Settings.PARTS) {
            return settings.parts[what - 9];
        }
        if (what >= 6 && what < 6 + Settings.SHIPS) {
            return settings.ship[what - 6];
        }
        switch (what) {
            case 0:
                return helm.wheelLines;
            case 1:
                return helm.gears;
            case 2:
                return helm.rows;
            case 3:
                return helm.orders.counted;
            case 4:
                return helm.conditions.counted;
            case 5:
                return wake.marks;
            default:
                return NONE;
        }
    }

    private static boolean isOff(int off) {
        return off >= OFF_LEAST && off <= OFF_MOST;
    }

    private static boolean isDistance(int d) {
        return d >= 0 && d <= 3600;
    }

    /** PARTS and SHIP, as they are or as they are tried. */
    private static final class Settings {
        static final int PARTS = 5;
        static final int AIR = 0;
        static final int PIN = 1;
        static final int RATE = 2;
        static final int LAG = 3;
        static final int VALVE = 4;
        static final int SHIPS = 3;
        static final int SPEED = 0;
        static final int INERTIA = 1;
        static final int WIND = 2;
        private static final int[] PART_LEAST = {0, 0, 1, 0, 0};
        private static final int[] PART_MOST = {8, 8, 9, 3, 2};
        private static final int[] SHIP_LEAST = {1, 1, -9};
        private static final int[] SHIP_MOST = {20, 9, 9};

        final int[] parts = {0, 0, 4, 0, 0};
        final int[] ship = {10, 3, 0};

        boolean setPart(int part, int value) {
            if (part < 0 || part >= PARTS || value < PART_LEAST[part] || value > PART_MOST[part]) {
                return false;
            }
            parts[part] = value;
            return true;
        }

        boolean setShip(int what, int value) {
            if (what < 0 || what >= SHIPS || value < SHIP_LEAST[what] || value > SHIP_MOST[what]) {
                return false;
            }
            ship[what] = value;
            return true;
        }

        void copy(Settings other) {
            System.arraycopy(other.parts, 0, parts, 0, PARTS);
            System.arraycopy(other.ship, 0, ship, 0, SHIPS);
        }
    }

    /** A STATE of the gear and the ship. */
    private static final class State {
        static final int STOP = 30;
        static final int WHEEL = 0;
        static final int RAM = 1;
        static final int RUDDER = 2;
        static final int TURN = 3;
        static final int OFF = 4;
        static final int ORDER = 5;
        private static final int RAM_RATE = 6;
        private static final int ROUND = 3600;

        private int wheel;
        private int ram;
        private int rudder;
        private int turn;
        int off;
        private int latest;
        private int second;
        private int third;

        void start(int from) {
            wheel = 0;
            ram = 0;
            rudder = 0;
            turn = 0;
            off = from;
            latest = 0;
            second = 0;
            third = 0;
        }

        void step(int order, Settings by) {
            wheel = lagging(order, by.parts[Settings.LAG]);
            third = second;
            second = latest;
            latest = order;
            ram += pull(wheel - ram, by.parts[Settings.AIR], RAM_RATE);
            int move = pull(ram - rudder, by.parts[Settings.PIN], by.parts[Settings.RATE]);
            int valve = by.parts[Settings.VALVE];
            if (!(valve == 1 && move > 0) && !(valve == 2 && move < 0)) {
                rudder += move;
            }
            int inertia = by.ship[Settings.INERTIA];
            if (inertia > 0) {
                turn += (rudder * by.ship[Settings.SPEED] / 10 - turn) / inertia;
            }
            off += turn + by.ship[Settings.WIND];
            if (off > OFF_MOST) {
                off -= ROUND;
            } else if (off < OFF_LEAST) {
                off += ROUND;
            }
        }

        /**
         * A STEP by a TEXT; false if the STATE behind it is that ahead of it: then it is that behind
         * all later ones too, and they need not be worked out.
         */
        boolean goOn(Text text, Settings by) {
            long ahead = packed();
            step(text.orderIn(this), by);
            return packed() != ahead;
        }

        private int lagging(int order, int lag) {
            switch (lag) {
                case 1:
                    return latest;
                case 2:
                    return second;
                case 3:
                    return third;
                default:
                    return order;
            }
        }

        /** How far something goes that lies d behind, has so much play and goes so far at most. */
        private static int pull(int d, int play, int most) {
            if (d > play) {
                return Math.min(d - play, most);
            }
            return -d > play ? -Math.min(-d - play, most) : 0;
        }

        int look(int what) {
            switch (what) {
                case WHEEL:
                    return wheel;
                case RAM:
                    return ram;
                case RUDDER:
                    return rudder;
                case TURN:
                    return turn;
                case OFF:
                    return off;
                default:
                    return latest;
            }
        }

        /**
         * The whole STATE as one number, so that many can be kept and compared cheaply. All but TURN
         * (60 at most without sign, as RUDDER times SPEED by 10 is) and OFF lie in -30 .. 30.
         */
        long packed() {
            long all = wheel + 32;
            all = all << 6 | ram + 32;
            all = all << 6 | rudder + 32;
            all = all << 6 | latest + 32;
            all = all << 6 | second + 32;
            all = all << 6 | third + 32;
            all = all << 7 | turn + 64;
            return all << 12 | off + 2048;
        }

        static int offOf(long packed) {
            return (int) (packed & 4095) - 2048;
        }

        void unpack(long packed) {
            off = offOf(packed);
            turn = (int) (packed >>> 12 & 127) - 64;
            third = (int) (packed >>> 19 & 63) - 32;
            second = (int) (packed >>> 25 & 63) - 32;
            latest = (int) (packed >>> 31 & 63) - 32;
            rudder = (int) (packed >>> 37 & 63) - 32;
            ram = (int) (packed >>> 43 & 63) - 32;
            wheel = (int) (packed >>> 49 & 63) - 32;
        }
    }

    /**
     * The KNOTS of all E or of all B of a TEXT, the operands ahead of their signs, so that they are
     * worked out from left to right without recursion. A number, a W or a GEAR stands as 0 or more,
     * all else as one of the numbers below 0.
     */
    private static final class Knots {
        static final int MOST = 64;
        static final long ERROR = Long.MIN_VALUE;
        static final int NOTHING = Integer.MIN_VALUE;
        /** The NAMES are -1 .. -5: what State.look() calls w is -1 - w. */
        static final int LAST_NAME = -1 - State.OFF;
        static final int NOT = -6;
        static final int OR = -7;
        static final int AND = -8;
        static final int LESS = -9;
        static final int AT_MOST = -10;
        static final int EQUAL = -11;
        static final int UNEQUAL = -12;
        static final int AT_LEAST = -13;
        static final int MORE = -14;
        static final int PLUS = -15;
        static final int MINUS = -16;
        static final int TIMES = -17;
        static final int BY = -18;
        /** Signs of the TEXT that are no KNOTS. */
        static final int OPEN = -19;
        static final int CLOSE = -20;
        static final int SEMICOLON = -21;
        static final int RANK_OF_COMPARISONS = 4;
        private static final long GREATEST = 1_000_000_000_000L;
        /** Bit s of the table of a GEAR tells whether it is on in the set of GEARS s. */
        private static final long[] GEAR_TABLES = {
            0xAAAAAAAAAAAAAAAAL, 0xCCCCCCCCCCCCCCCCL, 0xF0F0F0F0F0F0F0F0L,
            0xFF00FF00FF00FF00L, 0xFFFF0000FFFF0000L, 0xFFFFFFFF00000000L
        };

        private final int[] knots = new int[MOST];
        private final int[] places = new int[MOST];
        private final long[] values = new long[MOST];
        int counted;
        int written;

        void clear() {
            counted = 0;
            written = 0;
        }

        /** Counts a KNOT as it is read; false if there are too many. */
        boolean addOne() {
            if (counted >= MOST) {
                return false;
            }
            counted++;
            return true;
        }

        void write(int knot, int place) {
            if (written < MOST) {
                knots[written] = knot;
                places[written] = place;
                written++;
            }
        }

        /** Puts GEARS for their W; the place of the first W that is none, or NONE. */
        int settleGears(Text of) {
            for (int k = 0; k < written; k++) {
                if (knots[k] >= 0) {
                    int gear = of.gearOf(knots[k]);
                    if (gear == NONE) {
                        return places[k];
                    }
                    knots[k] = gear;
                }
            }
            return NONE;
        }

        /** The VALUE of the E from one KNOT to ahead of another in a STATE; ERROR with an ERROR. */
        long workOut(int from, int to, State in) {
            int top = 0;
            for (int k = from; k < to && k < written; k++) {
                int knot = knots[k];
                if (knot >= LAST_NAME && top < MOST) {
                    values[top] = knot >= 0 ? knot : in.look(-1 - knot);
                    top++;
                } else if (knot == NOT && top > 0) {
                    values[top - 1] = values[top - 1] == 0 ? 1 : 0;
                } else if (top > 1) {
                    top--;
                    long value = joined(knot, values[top - 1], values[top]);
                    if (value > GREATEST || value < -GREATEST) {
                        return ERROR;
                    }
                    values[top - 1] = value;
                }
            }
            return top > 0 ? values[0] : ERROR;
        }

        private static long joined(int sign, long a, long b) {
            switch (sign) {
                case OR:
                    return a != 0 || b != 0 ? 1 : 0;
                case AND:
                    return a != 0 && b != 0 ? 1 : 0;
                case LESS:
                    return a < b ? 1 : 0;
                case AT_MOST:
                    return a <= b ? 1 : 0;
                case EQUAL:
                    return a == b ? 1 : 0;
                case UNEQUAL:
                    return a != b ? 1 : 0;
                case AT_LEAST:
                    return a >= b ? 1 : 0;
                case MORE:
                    return a > b ? 1 : 0;
                case PLUS:
                    return a + b;
                case MINUS:
                    return a - b;
                case TIMES:
                    // Asked ahead of the product, which could go round in a long.
                    return b != 0 && (a < 0 ? -a : a) > GREATEST / (b < 0 ? -b : b) ? ERROR : a * b;
                case BY:
                    return b == 0 ? ERROR : a / b;
                default:
                    return ERROR;
            }
        }

        /** Bit s tells whether the B from one KNOT to ahead of another holds with GEARS s. */
        long tableOf(int from, int to) {
            int top = 0;
            for (int k = from; k < to && k < written; k++) {
                int knot = knots[k];
                if (knot >= 0 && knot < GEAR_TABLES.length && top < MOST) {
                    values[top] = GEAR_TABLES[knot];
                    top++;
                } else if (knot == NOT && top > 0) {
                    values[top - 1] = ~values[top - 1];
                } else if (top > 1) {
                    top--;
                    long a = values[top - 1];
                    values[top - 1] = knot == AND ? a & values[top] : a | values[top];
                }
            }
            return top > 0 ? values[0] : Text.ALWAYS;
        }

        /** The higher, the closer a sign binds. */
        static int rank(int sign) {
            switch (sign) {
                case OR:
                    return 1;
                case AND:
                    return 2;
                case NOT:
                    return 3;
                case LESS:
                case AT_MOST:
                case EQUAL:
                case UNEQUAL:
                case AT_LEAST:
                case MORE:
                    return RANK_OF_COMPARISONS;
                case PLUS:
                case MINUS:
                    return 5;
                case TIMES:
                case BY:
                    return 6;
                default:
                    return 0;
            }
        }
    }

    /** A TEXT that was read. */
    private static final class Text {
        static final int WHEEL_LINES_MOST = 12;
        static final int GEARS_MOST = 6;
        static final int ROWS_MOST = 6;
        static final int ROW_MOST = 12;
        static final long ALWAYS = -1L;

        final Knots orders = new Knots();
        final Knots conditions = new Knots();
        /** A wheel LINE's if has the KNOTS from start to ahead of middle, its wheel from there to the next start. */
        private final int[] starts = new int[WHEEL_LINES_MOST + 1];
        private final int[] middles = new int[WHEEL_LINES_MOST];
        private final int[] names = new int[GEARS_MOST];
        final long[] mayTables = new long[GEARS_MOST];
        final int[] rowSteps = new int[ROWS_MOST];
        final int[] rowLengths = new int[ROWS_MOST];
        private final int[] rowOrders = new int[ROWS_MOST * ROW_MOST];
        long safeTable = ALWAYS;
        int lines;
        int wheelLines;
        int gears;
        int rows;

        void clear() {
            orders.clear();
            conditions.clear();
            safeTable = ALWAYS;
            lines = 0;
            wheelLines = 0;
            gears = 0;
            rows = 0;
        }

        void startWheelLine() {
            if (wheelLines < WHEEL_LINES_MOST) {
                starts[wheelLines] = orders.written;
                middles[wheelLines] = orders.written;
            }
        }

        void endIf() {
            if (wheelLines < WHEEL_LINES_MOST) {
                middles[wheelLines] = orders.written;
            }
        }

        void endWheelLine() {
            if (wheelLines < WHEEL_LINES_MOST) {
                wheelLines++;
                starts[wheelLines] = orders.written;
            }
        }

        void addGear(int name) {
            if (gears < GEARS_MOST) {
                names[gears] = name;
                mayTables[gears] = ALWAYS;
                gears++;
            }
        }

        void addRow(int steps) {
            if (rows < ROWS_MOST) {
                rowSteps[rows] = steps;
                rowLengths[rows] = 0;
                rows++;
            }
        }

        /** How many ORDERS the latest ROW has. */
        int latestLength() {
            return rows > 0 ? rowLengths[rows - 1] : 0;
        }

        void addRowOrder(int order) {
            int row = rows - 1;
            if (row >= 0 && rowLengths[row] < ROW_MOST) {
                rowOrders[row * ROW_MOST + rowLengths[row]] = order;
                rowLengths[row]++;
            }
        }

        boolean hasRow(int row) {
            return row >= 0 && row < rows;
        }

        boolean hasGears(int bits) {
            return bits >= 0 && bits < 1 << gears;
        }

        int rowOrder(int row, int k) {
            return hasRow(row) && k >= 0 && k < ROW_MOST ? rowOrders[row * ROW_MOST + k] : 0;
        }

        /** The ORDER of a STEP (1 and on) that a ROW steers. */
        int orderOfRow(int row, int step) {
            if (!hasRow(row) || rowSteps[row] < 1) {
                return 0;
            }
            return rowOrder(row, Math.min((step - 1) / rowSteps[row], rowLengths[row] - 1));
        }

        int gearOf(int name) {
            for (int gear = 0; gear < gears; gear++) {
                if (names[gear] == name) {
                    return gear;
                }
            }
            return NONE;
        }

        int orderIn(State in) {
            for (int line = 0; line < wheelLines; line++) {
                int middle = middles[line];
                boolean holds = middle == starts[line];
                if (!holds) {
                    long value = orders.workOut(starts[line], middle, in);
                    holds = value != 0 && value != Knots.ERROR;
                }
                if (holds) {
                    long value = orders.workOut(middle, starts[line + 1], in);
                    return value == Knots.ERROR ? 0 : (int) Math.max(-State.STOP, Math.min(State.STOP, value));
                }
            }
            return 0;
        }
    }

    /** The TAPE, and the TOKENS of a TEXT on it, one at a time. */
    private static final class Tape {
        static final int END = 0;
        static final int WORD = 1;
        static final int OWN_WORD = 2;
        static final int NUMBER = 3;
        static final int SIGN = 4;
        static final int STRANGE = 5;
        static final int IF = ('i' & 31) << 25 | ('f' & 31) << 20;
        static final int WHEEL = ('w' & 31) << 25 | ('h' & 31) << 20 | ('e' & 31) << 15 | ('e' & 31) << 10 | ('l' & 31) << 5;
        static final int GEAR = ('g' & 31) << 25 | ('e' & 31) << 20 | ('a' & 31) << 15 | ('r' & 31) << 10;
        static final int SAFE = ('s' & 31) << 25 | ('a' & 31) << 20 | ('f' & 31) << 15 | ('e' & 31) << 10;
        static final int ROW = ('r' & 31) << 25 | ('o' & 31) << 20 | ('w' & 31) << 15;
        static final int OR = ('o' & 31) << 25 | ('r' & 31) << 20;
        static final int AND = ('a' & 31) << 25 | ('n' & 31) << 20 | ('d' & 31) << 15;
        static final int NOT = ('n' & 31) << 25 | ('o' & 31) << 20 | ('t' & 31) << 15;
        static final int OFF = ('o' & 31) << 25 | ('f' & 31) << 20 | ('f' & 31) << 15;
        static final int TURN = ('t' & 31) << 25 | ('u' & 31) << 20 | ('r' & 31) << 15 | ('n' & 31) << 10;
        static final int RAM = ('r' & 31) << 25 | ('a' & 31) << 20 | ('m' & 31) << 15;
        static final int RUDDER = ('r' & 31) << 25 | ('u' & 31) << 20 | ('d' & 31) << 15 | ('d' & 31) << 10 | ('e' & 31) << 5 | 'r' & 31;
        private static final int LETTERS_MOST = 6;
        /** Beyond every number that a TEXT may have: more digits need not be told apart. */
        private static final int TOO_GREAT = 10_000;

        private static final int BYTES_MOST = 600;
        private static final int FEED_BYTES = 20;

        private final byte[] bytes = new byte[BYTES_MOST];
        int held;
        private int length;
        private int next;
        int kind;
        int value;
        int place;

        boolean hasRoom() {
            return held + FEED_BYTES <= BYTES_MOST;
        }

        void put(int number) {
            for (int shift = 24; shift >= 0; shift -= 8) {
                if (held < BYTES_MOST) {
                    bytes[held] = (byte) (number >>> shift);
                    held++;
                }
            }
        }

        /** Comes to the first TOKEN of a TEXT of n bytes; the next feed comes in their stead. */
        void open(int n) {
            length = Math.min(n, BYTES_MOST);
            held = 0;
            next = 0;
            advance();
        }

        int bytesInAll() {
            return length;
        }

        void advance() {
            while (next < length && (bytes[next] == ' ' || bytes[next] == 10)) {
                next++;
            }
            place = next;
            value = 0;
            if (next >= length) {
                kind = END;
            } else if (bytes[next] >= 'a' && bytes[next] <= 'z') {
                readWord();
            } else if (bytes[next] >= '0' && bytes[next] <= '9') {
                readNumber();
            } else {
                readSign(bytes[next]);
            }
        }

        private void readWord() {
            int shift = 25;
            while (next < length && bytes[next] >= 'a' && bytes[next] <= 'z') {
                if (shift >= 0) {
                    value |= (bytes[next] & 31) << shift;
                }
                shift -= 5;
                next++;
            }
            if (next - place > LETTERS_MOST) {
                kind = STRANGE;
            } else {
                kind = isOfLanguage(value) ? WORD : OWN_WORD;
            }
        }

        private static boolean isOfLanguage(int word) {
            switch (word) {
                case IF:
                case WHEEL:
                case GEAR:
                case SAFE:
                case ROW:
                case OR:
                case AND:
                case NOT:
                case OFF:
                case TURN:
                case RAM:
                case RUDDER:
                    return true;
                default:
                    return false;
            }
        }

        private void readNumber() {
            kind = NUMBER;
            while (next < length && bytes[next] >= '0' && bytes[next] <= '9') {
                value = Math.min(value * 10 + bytes[next] - '0', TOO_GREAT);
                next++;
            }
        }

        private void readSign(int sign) {
            next++;
            int behind = next < length ? bytes[next] : 0;
            kind = SIGN;
            if (sign == '<' || sign == '>') {
                value = comparison(sign, behind);
                if (value != Knots.LESS && value != Knots.MORE) {
                    next++;
                }
            } else {
                value = singleSign(sign);
                if (value == Knots.NOTHING) {
                    kind = STRANGE;
                }
            }
        }

        private static int comparison(int sign, int behind) {
            if (sign == '>') {
                return behind == '=' ? Knots.AT_LEAST : Knots.MORE;
            }
            if (behind == '>') {
                return Knots.UNEQUAL;
            }
            return behind == '=' ? Knots.AT_MOST : Knots.LESS;
        }

        private static int singleSign(int sign) {
            switch (sign) {
                case '=':
                    return Knots.EQUAL;
                case '+':
                    return Knots.PLUS;
                case '-':
                    return Knots.MINUS;
                case '*':
                    return Knots.TIMES;
                case '/':
                    return Knots.BY;
                case '(':
                    return Knots.OPEN;
                case ')':
                    return Knots.CLOSE;
                case ';':
                    return Knots.SEMICOLON;
                default:
                    return Knots.NOTHING;
            }
        }
    }

    /** Reads a TEXT, and keeps the FAULT of the latest one. */
    private static final class TextReader {
        private static final int CANNOT_STAND = 1;
        private static final int TOO_MUCH = 2;
        private static final int TOLD_ALREADY = 3;
        private static final int NO_GEAR = 4;
        private static final int OPEN_MOST = 8;
        private static final int NUMBER_MOST = 9999;
        /** Where an E or B can be: not may stand, only an operand, behind an operand, behind its end. */
        private static final int AT_BEGIN = 0;
        private static final int AT_OPERAND = 1;
        private static final int BEHIND_OPERAND = 2;
        private static final int BEHIND_END = 3;

        final Tape tape = new Tape();
        /** Signs read whose right side isn't yet, and the '(' among them. */
        private final int[] waiting = new int[Knots.MOST + OPEN_MOST];
        /** The KNOTS of each GEAR's B and, behind these, of safe's; none where there is no B. */
        private final int[] froms = new int[Text.GEARS_MOST + 1];
        private final int[] tos = new int[Text.GEARS_MOST + 1];
        private Text into = new Text();
        private Knots list = into.orders;
        private boolean ofGears;
        private int waitings;
        private int opened;
        private int phase;
        private boolean hasSafe;
        int fault;
        int faultPlace = NONE;

        void open(int n) {
            into.clear();
            hasSafe = false;
            fault = 0;
            faultPlace = NONE;
            tape.open(n);
        }

        boolean atEnd() {
            return tape.kind == Tape.END;
        }

        /** Asked behind the last LINE, as a W may come ahead of its GEAR. */
        boolean close() {
            int place = into.conditions.settleGears(into);
            if (place != NONE) {
                fault = NO_GEAR;
                faultPlace = place;
                return false;
            }
            for (int gear = 0; gear < into.gears; gear++) {
                into.mayTables[gear] = into.conditions.tableOf(froms[gear], tos[gear]);
            }
            if (hasSafe) {
                into.safeTable = into.conditions.tableOf(froms[Text.GEARS_MOST], tos[Text.GEARS_MOST]);
            }
            return true;
        }

        /** Hands out the TEXT that was read; the next one is read into the other. */
        Text exchange(Text other) {
            Text read = into;
            into = other;
            return read;
        }

        private boolean refuse(int kind) {
            fault = kind;
            faultPlace = tape.place;
            return false;
        }

        boolean readLine() {
            boolean good;
            switch (tape.kind == Tape.WORD ? tape.value : 0) {
                case Tape.IF:
                case Tape.WHEEL:
                    good = readWheelLine();
                    break;
                case Tape.GEAR:
                    good = readGearLine();
                    break;
                case Tape.SAFE:
                    good = readSafeLine();
                    break;
                case Tape.ROW:
                    good = readRowLine();
                    break;
                default:
                    good = refuse(CANNOT_STAND);
                    break;
            }
            if (!good) {
                return false;
            }
            if (!atSign(Knots.SEMICOLON)) {
                return refuse(CANNOT_STAND);
            }
            tape.advance();
            into.lines++;
            return true;
        }

        private boolean atSign(int sign) {
            return tape.kind == Tape.SIGN && tape.value == sign;
        }

        private boolean atWord(int word) {
            return tape.kind == Tape.WORD && tape.value == word;
        }

        private boolean readWheelLine() {
            if (into.wheelLines >= Text.WHEEL_LINES_MOST) {
                return refuse(TOO_MUCH);
            }
            into.startWheelLine();
            if (atWord(Tape.IF)) {
                tape.advance();
                if (!readExpression(into.orders, false)) {
                    return false;
                }
                into.endIf();
            }
            if (!atWord(Tape.WHEEL)) {
                return refuse(CANNOT_STAND);
            }
            tape.advance();
            if (!readExpression(into.orders, false)) {
                return false;
            }
            into.endWheelLine();
            return true;
        }

        private boolean readGearLine() {
            int gear = into.gears;
            if (gear >= Text.GEARS_MOST) {
                return refuse(TOO_MUCH);
            }
            tape.advance();
            if (tape.kind != Tape.OWN_WORD) {
                return refuse(CANNOT_STAND);
            }
            if (into.gearOf(tape.value) != NONE) {
                return refuse(TOLD_ALREADY);
            }
            into.addGear(tape.value);
            tape.advance();
            froms[gear] = into.conditions.written;
            tos[gear] = into.conditions.written;
            if (!atWord(Tape.IF)) {
                return true;
            }
            tape.advance();
            if (!readExpression(into.conditions, true)) {
                return false;
            }
            tos[gear] = into.conditions.written;
            return true;
        }

        private boolean readSafeLine() {
            if (hasSafe) {
                return refuse(TOLD_ALREADY);
            }
            hasSafe = true;
            tape.advance();
            froms[Text.GEARS_MOST] = into.conditions.written;
            if (!readExpression(into.conditions, true)) {
                return false;
            }
            tos[Text.GEARS_MOST] = into.conditions.written;
            return true;
        }

        private boolean readRowLine() {
            if (into.rows >= Text.ROWS_MOST) {
                return refuse(TOO_MUCH);
            }
            tape.advance();
            if (tape.kind != Tape.NUMBER) {
                return refuse(CANNOT_STAND);
            }
            if (tape.value < 1 || tape.value > 9) {
                return refuse(TOO_MUCH);
            }
            into.addRow(tape.value);
            tape.advance();
            boolean good = readRowOrder();
            for (int left = Text.ROW_MOST; left > 0 && good && !atSign(Knots.SEMICOLON); left--) {
                good = readRowOrder();
            }
            return good;
        }

        private boolean readRowOrder() {
            boolean negative = atSign(Knots.MINUS);
            if (negative) {
                tape.advance();
            }
            if (tape.kind != Tape.NUMBER) {
                return refuse(CANNOT_STAND);
            }
            if (into.latestLength() >= Text.ROW_MOST || tape.value > State.STOP) {
                return refuse(TOO_MUCH);
            }
            into.addRowOrder(negative ? -tape.value : tape.value);
            tape.advance();
            return true;
        }

        /** Reads an E or, of GEARS, a B, up to the TOKEN that does not go on with it. */
        private boolean readExpression(Knots knots, boolean gearsOnly) {
            list = knots;
            ofGears = gearsOnly;
            waitings = 0;
            opened = 0;
            phase = AT_BEGIN;
            boolean good = true;
            for (int left = tape.bytesInAll(); left >= 0 && good && phase != BEHIND_END; left--) {
                good = phase == BEHIND_OPERAND ? goOnBehindOperand() : readOperand();
                if (good && phase != BEHIND_END) {
                    tape.advance();
                }
            }
            return good;
        }

        private boolean readOperand() {
            if (atSign(Knots.OPEN)) {
                if (opened >= OPEN_MOST) {
                    return refuse(TOO_MUCH);
                }
                opened++;
                return putOff(Knots.OPEN, AT_BEGIN);
            }
            if (phase == AT_BEGIN && atWord(Tape.NOT)) {
                return list.addOne() ? putOff(Knots.NOT, AT_BEGIN) : refuse(TOO_MUCH);
            }
            int operand = ofGears ? gearWordHere() : valueHere();
            if (operand == Knots.NOTHING) {
                return refuse(CANNOT_STAND);
            }
            if (tape.kind == Tape.NUMBER && operand > NUMBER_MOST || !list.addOne()) {
                return refuse(TOO_MUCH);
            }
            list.write(operand, tape.place);
            phase = BEHIND_OPERAND;
            return true;
        }

        private boolean putOff(int sign, int then) {
            if (waitings < waiting.length) {
                waiting[waitings] = sign;
                waitings++;
            }
            phase = then;
            return true;
        }

        private int gearWordHere() {
            return tape.kind == Tape.OWN_WORD ? tape.value : Knots.NOTHING;
        }

        private int valueHere() {
            if (tape.kind == Tape.NUMBER) {
                return tape.value;
            }
            switch (tape.kind == Tape.WORD ? tape.value : 0) {
                case Tape.WHEEL:
                    return -1 - State.WHEEL;
                case Tape.RAM:
                    return -1 - State.RAM;
                case Tape.RUDDER:
                    return -1 - State.RUDDER;
                case Tape.TURN:
                    return -1 - State.TURN;
                case Tape.OFF:
                    return -1 - State.OFF;
                default:
                    return Knots.NOTHING;
            }
        }

        private boolean goOnBehindOperand() {
            if (atSign(Knots.CLOSE) && opened > 0) {
                return closeOne();
            }
            int sign = signHere();
            int rank = Knots.rank(sign);
            if (rank == 0) {
                return endExpression();
            }
            if (rank == Knots.RANK_OF_COMPARISONS) {
                writeWaiting(rank + 1);
                if (waitings > 0 && Knots.rank(waiting[waitings - 1]) == rank) {
                    return refuse(CANNOT_STAND);
                }
            }
            if (!list.addOne()) {
                return refuse(TOO_MUCH);
            }
            writeWaiting(rank);
            return putOff(sign, sign == Knots.AND || sign == Knots.OR ? AT_BEGIN : AT_OPERAND);
        }

        private boolean closeOne() {
            writeWaiting(1);
            if (waitings > 0) {
                waitings--;
            }
            opened--;
            return true;
        }

        private boolean endExpression() {
            if (opened > 0) {
                return refuse(CANNOT_STAND);
            }
            writeWaiting(1);
            phase = BEHIND_END;
            return true;
        }

        /** The sign between two operands that stands here, or NOTHING. */
        private int signHere() {
            if (atWord(Tape.AND)) {
                return Knots.AND;
            }
            if (atWord(Tape.OR)) {
                return Knots.OR;
            }
            return tape.kind == Tape.SIGN && !ofGears ? tape.value : Knots.NOTHING;
        }

        /** Both sides of the latest signs of this rank and above are known: they can be written. */
        private void writeWaiting(int rank) {
            while (waitings > 0 && Knots.rank(waiting[waitings - 1]) >= rank) {
                waitings--;
                list.write(waiting[waitings], tape.place);
            }
        }
    }

    /** A HUNT: the STATES behind the STEPS till one comes again. */
    private static final class Track {
        private static final int SETTLES = 1;
        private static final int HUNTS = 2;
        private static final int LOST = 3;
        private static final int SLOT_BITS = 11;
        private static final long SPREAD = 0x9E3779B97F4A7C15L;

        private final State state = new State();
        private final long[] seen = new long[LED_STEPS_MOST + 1];
        /** Where a STATE stands in seen, plus 1, at a slot by its number; so one that comes again is found at once. */
        private final int[] slots = new int[1 << SLOT_BITS];
        int kind;
        int first;
        int period;
        int swing;

        void follow(int off, Text text, Settings by) {
            Arrays.fill(slots, 0);
            state.start(off);
            int earlier = keep(0);
            int step = 0;
            while (step < LED_STEPS_MOST && earlier == NONE) {
                step++;
                state.step(text.orderIn(state), by);
                earlier = keep(step);
            }
            if (earlier == NONE) {
                kind = LOST;
                first = NONE;
                period = NONE;
                swing = swingOf(0, step);
            } else {
                first = earlier;
                period = step - earlier;
                kind = period == 1 ? SETTLES : HUNTS;
                swing = swingOf(first, step);
            }
        }

        /** Keeps the STATE behind a STEP; the earlier STEP behind which it was, or NONE. */
        private int keep(int step) {
            long now = state.packed();
            seen[step] = now;
            int slot = (int) (now * SPREAD >>> 64 - SLOT_BITS);
            for (int left = slots.length; left > 0 && slots[slot] != 0; left--) {
                if (seen[slots[slot] - 1] == now) {
                    return slots[slot] - 1;
                }
                slot = slot + 1 & slots.length - 1;
            }
            slots[slot] = step + 1;
            return NONE;
        }

        private int swingOf(int from, int to) {
            int least = State.offOf(seen[from]);
            int most = least;
            for (int step = from + 1; step <= to; step++) {
                int off = State.offOf(seen[step]);
                least = Math.min(least, off);
                most = Math.max(most, off);
            }
            return most - least;
        }
    }

    /** The WAKE that was seen, and the SUSPECTS of the latest question about it. */
    private static final class Wake {
        /** As many as pairs of PARTS have other values than those they have: never more than these. */
        static final int SUSPECTS_MOST = 318;
        private static final int MARKS_MOST = 12;
        private static final int NO_NIBBLE = 15;
        private static final int NOBODY = 0xFFFF;

        private final State state = new State();
        private final Settings tried = new Settings();
        private final int[] steps = new int[MARKS_MOST];
        private final int[] offs = new int[MARKS_MOST];
        int marks;
        /** Four bits each from the lowest on: first PART, its value, second PART, its value. */
        private final int[] found = new int[SUSPECTS_MOST];
        int suspects;
        int fewest;
        int inSome;
        int inAll;
        private boolean known;
        private int distance;
        private int start;

        boolean addMark(int step, int off) {
            if (marks >= MARKS_MOST || marks > 0 && step <= steps[marks - 1]) {
                return false;
            }
            steps[marks] = step;
            offs[marks] = off;
            marks++;
            forget();
            return true;
        }

        /** Something has changed on which the SUSPECTS depend. */
        void forget() {
            known = false;
        }

        int suspectAt(int k) {
            return k >= 0 && k < suspects ? found[k] : NOBODY;
        }

        static int look(int suspect, int what) {
            int nibble = suspect >> 4 * what & 15;
            return nibble == NO_NIBBLE ? NONE : nibble;
        }

        /** Makes the PARTS of settings so as a SUSPECT has them. */
        static void fail(int suspect, Settings of) {
            of.setPart(look(suspect, 0), look(suspect, 1));
            of.setPart(look(suspect, 2), look(suspect, 3));
        }

        void find(int d, int off, Text text, Settings as) {
            if (known && distance == d && start == off) {
                return;
            }
            known = true;
            distance = d;
            start = off;
            suspects = 0;
            tried.copy(as);
            fewest = 0;
            addIfFits(NOBODY, text);
            if (suspects == 0) {
                fewest = 1;
                for (int part = 0; part < Settings.PARTS; part++) {
                    tryPart(part, text, as);
                }
            }
            if (suspects == 0) {
                fewest = 2;
                for (int pair = 0; pair < Settings.PARTS * Settings.PARTS; pair++) {
                    tryPair(pair / Settings.PARTS, pair % Settings.PARTS, text, as);
                }
            }
            if (suspects == 0) {
                fewest = THERE_IS_NONE;
            }
            sumUp();
        }

        private void tryPart(int part, Text text, Settings as) {
            for (int value = Settings.PART_LEAST[part]; value <= Settings.PART_MOST[part]; value++) {
                if (value != as.parts[part]) {
                    tried.copy(as);
                    addIfFits(part | value << 4 | NO_NIBBLE << 8 | NO_NIBBLE << 12, text);
                }
            }
        }

        /** Only with the lesser PART first: each pair once. */
        private void tryPair(int part, int other, Text text, Settings as) {
            if (part >= other) {
                return;
            }
            for (int value = Settings.PART_LEAST[part]; value <= Settings.PART_MOST[part]; value++) {
                for (int second = Settings.PART_LEAST[other]; second <= Settings.PART_MOST[other]; second++) {
                    if (value != as.parts[part] && second != as.parts[other]) {
                        tried.copy(as);
                        addIfFits(part | value << 4 | other << 8 | second << 12, text);
                    }
                }
            }
        }

        /** Keeps one who FAILS in settings that were as they are, if the WAKE is like the MARKS. */
        private void addIfFits(int suspect, Text text) {
            fail(suspect, tried);
            state.start(start);
            int step = 0;
            boolean moves = true;
            for (int m = 0; m < marks; m++) {
                while (step < steps[m] && moves) {
                    moves = state.goOn(text, tried);
                    step++;
                }
                if (Math.abs(state.off - offs[m]) > distance) {
                    return;
                }
            }
            if (suspects < SUSPECTS_MOST) {
                found[suspects] = suspect;
                suspects++;
            }
        }

        private void sumUp() {
            inSome = 0;
            inAll = suspects > 0 ? (1 << Settings.PARTS) - 1 : 0;
            for (int k = 0; k < suspects; k++) {
                int failing = bitOf(look(found[k], 0)) | bitOf(look(found[k], 2));
                inSome |= failing;
                inAll &= failing;
            }
        }

        private static int bitOf(int part) {
            return part == NONE ? 0 : 1 << part;
        }
    }

    /**
     * How a ROW parts the SUSPECTS. All go on together STEP by STEP, so that only their STATES are
     * kept and not all the OFFS that they had.
     */
    private static final class Groups {
        private final State state = new State();
        private final Settings tried = new Settings();
        private final long[] states = new long[Wake.SUSPECTS_MOST];
        /** A group is told by the first one in it. */
        private final int[] leaders = new int[Wake.SUSPECTS_MOST];
        private final int[] leadersAhead = new int[Wake.SUSPECTS_MOST];
        private final int[] sizes = new int[Wake.SUSPECTS_MOST];
        private int members;

        int greatest(int row, int n, Wake wake, Text text, Settings as) {
            members = Math.min(wake.suspects, Wake.SUSPECTS_MOST);
            state.start(0);
            Arrays.fill(states, state.packed());
            Arrays.fill(leaders, 0);
            for (int step = 1; step <= n; step++) {
                goOn(text.orderOfRow(row, step), wake, as);
                partGroups();
            }
            return greatestSize();
        }

        private void goOn(int order, Wake wake, Settings as) {
            for (int k = 0; k < members; k++) {
                tried.copy(as);
                Wake.fail(wake.suspectAt(k), tried);
                state.unpack(states[k]);
                state.step(order, tried);
                states[k] = state.packed();
            }
        }

        private void partGroups() {
            System.arraycopy(leaders, 0, leadersAhead, 0, members);
            for (int k = 0; k < members; k++) {
                int leader = leadersAhead[k];
                if (!sameOff(k, leader)) {
                    leaders[k] = newLeader(k, leader);
                }
            }
        }

        private boolean sameOff(int k, int other) {
            return State.offOf(states[k]) == State.offOf(states[other]);
        }

        /** The first of those that part from the same group by the same OFF. */
        private int newLeader(int k, int leaderAhead) {
            for (int other = leaderAhead + 1; other < k; other++) {
                if (leadersAhead[other] == leaderAhead && leaders[other] == other && sameOff(k, other)) {
                    return other;
                }
            }
            return k;
        }

        private int greatestSize() {
            Arrays.fill(sizes, 0);
            int greatest = 0;
            for (int k = 0; k < members; k++) {
                sizes[leaders[k]]++;
                greatest = Math.max(greatest, sizes[leaders[k]]);
            }
            return greatest;
        }
    }

    /** A DRILL; sets of sets of GEARS are numbers whose bit s stands for the GEARS s. */
    private static final class Drill {
        private static final int LENGTH_MOST = 63;

        /** From which GEARS the end is so many changes away, not fewer. */
        private final long[] away = new long[LENGTH_MOST + 1];
        private final int[] changes = new int[LENGTH_MOST];
        int length;

        boolean find(int a, int b, Text text) {
            length = 0;
            away[0] = 1L << b;
            long met = away[0];
            while (length < LENGTH_MOST && (away[length] >>> a & 1) == 0 && away[length] != 0) {
                long from = aheadOf(away[length], text) & ~met;
                length++;
                away[length] = from;
                met |= from;
            }
            if ((away[length] >>> a & 1) == 0) {
                return false;
            }
            walk(a, text);
            return true;
        }

        int gearAt(int k) {
            return k >= 0 && k < length && k < LENGTH_MOST ? changes[k] : NONE;
        }

        /** From which GEARS one change leads to one of these. */
        private static long aheadOf(long these, Text text) {
            long from = 0;
            for (int gear = 0; gear < text.gears; gear++) {
                from |= changed(these & text.safeTable, gear) & text.mayTables[gear];
            }
            return from;
        }

        /** Each of these GEARS with one on that was off, or off that was on. */
        private static long changed(long these, int gear) {
            long on = gear >= 0 && gear < Text.GEARS_MOST ? Knots.GEAR_TABLES[gear] : 0;
            return (these & on) >>> (1 << gear) | (these & ~on) << (1 << gear);
        }

        /** Goes the nearest way from a; the least GEAR that comes nearer is taken each time. */
        private void walk(int a, Text text) {
            int at = a;
            for (int k = 0; k < length && k < LENGTH_MOST; k++) {
                long nearer = away[length - 1 - k] & text.safeTable;
                for (int gear = 0; gear < text.gears; gear++) {
                    int then = at ^ 1 << gear;
                    if ((nearer >>> then & 1) == 1 && (text.mayTables[gear] >>> at & 1) == 1) {
                        changes[k] = gear;
                        at = then;
                        break;
                    }
                }
            }
        }
    }

    /** The trial by hand. */
    private static final class Trial {
        private static final int TRIAL_STEPS_MOST = 100;

        final State state = new State();
        /** The STATES behind 0, 1, .. STEPS: PARTS may change between STEPS, so none can be worked out again. */
        private final long[] states = new long[TRIAL_STEPS_MOST + 1];
        int steps = NONE;

        void start(int off) {
            state.start(off);
            steps = 0;
            states[0] = state.packed();
        }

        boolean step(int order, Settings by) {
            if (steps == NONE || steps >= TRIAL_STEPS_MOST) {
                return false;
            }
            state.step(order, by);
            steps++;
            states[steps] = state.packed();
            return true;
        }

        boolean takeBack() {
            if (steps < 1) {
                return false;
            }
            steps--;
            state.unpack(states[steps]);
            return true;
        }
    }
}
