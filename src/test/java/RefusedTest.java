import java.util.List;

/**
 * Every call that the document refuses, with the first value beyond each end and the farthest ones:
 * what it answers, and that nothing has changed behind it. A second object, made by the same calls
 * but for the refused one, must answer all the same; no object comes near its 512th call.
 */
public final class RefusedTest {
    private static final int MIN = Integer.MIN_VALUE;
    private static final int MAX = Integer.MAX_VALUE;
    private static final int NO_ROW = 1_000_001;
    private static final int NO_WHAT = 1_000_002;
    private static final Checks C = new Checks();

    /** One call; a boolean counts 1 or 0. */
    private interface Call {
        long on(HuntingRudder x);
    }

    /** The calls that make an object. */
    private interface Maker {
        HuntingRudder make();
    }

    private static final String TEXT = "gear a if not b;gear b;gear c if a or b;safe a or b or c;"
        + "row 2 10 -10;row 9 5;row 1 -30;if off>50 wheel 0-off/10-turn;wheel 0-off/5;";

    public static void main(String[] args) {
        feed();
        text();
        textWithFault();
        fault();
        part();
        ship();
        row();
        led();
        steer();
        hunt();
        worst();
        holds();
        mark();
        fits();
        suspect();
        parts();
        gears();
        trial();
        noTrial();
        fullTrial();
        nowAndCount();
        C.end("RefusedTest");
    }

    // ---- objects ----

    /** An object with something of everything: TEXT, a FAULT, PARTS, SHIP, MARKS, a trial, a TAPE of 20. */
    static HuntingRudder furnished() {
        HuntingRudder x = new HuntingRudder();
        Checks.read(x, TEXT);
        Checks.read(x, "wheel 1;;");
        x.part(0, 1);
        x.part(1, 2);
        x.ship(0, 12);
        x.ship(2, 2);
        x.mark(2, 104);
        x.mark(9, 118);
        x.begin(50);
        x.order(10);
        x.order(-5);
        x.order(7);
        Checks.feed(x, "wheel 7;wheel");
        return x;
    }

    private static HuntingRudder withoutTrial() {
        HuntingRudder x = new HuntingRudder();
        Checks.read(x, TEXT);
        x.ship(2, 2);
        x.mark(2, 104);
        Checks.feed(x, "wheel 7;wheel");
        return x;
    }

    private static HuntingRudder withFullTape() {
        HuntingRudder x = new HuntingRudder();
        Checks.feed(x, "wheel 1;" + " ".repeat(584) + "wheel 2;");
        return x;
    }

    private static HuntingRudder withFullMarks() {
        HuntingRudder x = new HuntingRudder();
        Checks.read(x, TEXT);
        for (int k = 1; k <= 12; k++) {
            x.mark(k, 100);
        }
        return x;
    }

    private static HuntingRudder withTrialOf(int steps) {
        HuntingRudder x = new HuntingRudder();
        x.begin(-1795);
        for (int k = 1; k <= steps; k++) {
            x.order(k % 61 - 30);
        }
        return x;
    }

    private static void refused(Maker maker, String name, long due, Call call) {
        HuntingRudder x = maker.make();
        C.due(name, call.on(x), due);
        List<Long> seen = Seen.all(x);
        C.due(name + " changes nothing", seen != null && seen.equals(Seen.all(maker.make())), true);
    }

    /** Refused on an object that has something of everything. */
    private static void refused(String name, long due, Call call) {
        refused(RefusedTest::furnished, name, due, call);
    }

    // ---- promises 2 to 4 ----

    /** "NONE, and none come, if it would have more than 600." */
    private static void feed() {
        refused(RefusedTest::withFullTape, "feed on a full TAPE", -1, x -> x.feed(1, 2, 3, 4, 5));
        refused(RefusedTest::withFullTape, "blanks on a full TAPE", -1,
            x -> x.feed(0x20202020, 0x20202020, 0x20202020, 0x20202020, 0x20202020));
    }

    /** "-2, and the TAPE stays: there are not so many, n is below 0." */
    private static void text() {
        for (int n : new int[] {-1, 21, MIN, MAX}) {
            refused("text(" + n + ")", -2, x -> x.text(n));
        }
        refused(RefusedTest::withFullTape, "text(601)", -2, x -> x.text(601));
        refused(() -> withTrialOf(0), "text(1) of an empty TAPE", -2, x -> x.text(1));
    }

    /** "NONE with a FAULT, the one ahead stays": all of the TEXT, whatever FAULT and how far along it comes. */
    private static void textWithFault() {
        String[] bad = {"#", "wheel 30", "wheel 30;gear x;gear y if x;safe x;row 1 1;;", "wheel 10000;", "row 4 4 31;",
            "gear x;gear x;", "gear z;safe z;safe z;", "wheel 3;gear z if q;safe q;"};
        for (String text : bad) {
            HuntingRudder x = new HuntingRudder();
            Checks.read(x, TEXT);
            C.due("NONE with a FAULT: " + text, Checks.read(x, text), -1);
            List<Long> seen = Seen.text(x);
            C.due("the one ahead stays: " + text, seen != null && seen.equals(Seen.text(C.with(TEXT))), true);
            C.due("the TAPE is empty then: " + text, x.feed(0, 0, 0, 0, 0), 20);
        }
    }

    /** "NONE for another what." */
    private static void fault() {
        for (int what : new int[] {-1, 2, MIN, MAX}) {
            refused("fault(" + what + ")", -1, x -> x.fault(what));
        }
    }

    // ---- promises 5 to 7 ----

    /** "false: no such ones": PARTS 0 .. 4, and the values of each. */
    private static void part() {
        int[] least = {0, 0, 1, 0, 0};
        int[] most = {8, 8, 9, 3, 2};
        for (int k = 0; k < 5; k++) {
            int part = k;
            for (int value : new int[] {least[k] - 1, most[k] + 1, MIN, MAX}) {
                refused("part(" + part + ", " + value + ")", 0, x -> x.part(part, value) ? 1 : 0);
            }
        }
        for (int part : new int[] {-1, 5, MIN, MAX}) {
            refused("part(" + part + ", 1)", 0, x -> x.part(part, 1) ? 1 : 0);
        }
    }

    /** "false: no such ones": SPEED, INERTIA, WIND, and the values of each. */
    private static void ship() {
        int[] least = {1, 1, -9};
        int[] most = {20, 9, 9};
        for (int k = 0; k < 3; k++) {
            int what = k;
            for (int value : new int[] {least[k] - 1, most[k] + 1, MIN, MAX}) {
                refused("ship(" + what + ", " + value + ")", 0, x -> x.ship(what, value) ? 1 : 0);
            }
        }
        for (int what : new int[] {-1, 3, MIN, MAX}) {
            refused("ship(" + what + ", 1)", 0, x -> x.ship(what, 1) ? 1 : 0);
        }
    }

    /** "IndexOutOfBoundsException: no such ROW. NoSuchElementException: no such what." */
    private static void row() {
        for (int row : new int[] {-1, 3, MIN, MAX}) {
            for (int what : new int[] {0, 1, 2, -1, 14, MIN, MAX}) {
                refused("row(" + row + ", " + what + ")", NO_ROW, x -> Checks.row(x, row, what));
            }
        }
        int[] orders = {2, 1, 1};
        for (int k = 0; k < 3; k++) {
            int row = k;
            for (int what : new int[] {-1, orders[k] + 2, MIN, MIN + 1, MAX}) {
                refused("row(" + row + ", " + what + ")", NO_WHAT, x -> Checks.row(x, row, what));
            }
        }
    }

    // ---- promises 8 to 12 ----

    private static final int[] NO_OFFS = {-1801, 1800, MIN, MAX};

    /** MARKS that one PART that FAILS would explain, if a ship could start one beyond the last OFF. */
    private static HuntingRudder seenFromBeyond(int off) {
        HuntingRudder x = new HuntingRudder();
        Checks.read(x, "wheel 10;row 1 30;");
        x.mark(1, off == 1800 ? -1800 : 1799);
        return x;
    }

    /** "Integer.MIN_VALUE: no such ones." */
    private static void led() {
        for (int off : NO_OFFS) {
            refused("led off " + off, MIN, x -> x.led(off, 1, 4));
        }
        for (int n : new int[] {-1, 1501, MIN, MAX}) {
            refused("led n " + n, MIN, x -> x.led(0, n, 4));
        }
        for (int what : new int[] {-1, 6, MIN, MAX}) {
            refused("led what " + what, MIN, x -> x.led(0, 1, what));
            refused("led behind none, what " + what, MIN, x -> x.led(0, 0, what));
        }
    }

    /** "likewise." */
    private static void steer() {
        for (int row : new int[] {-1, 3, MIN, MAX}) {
            refused("steer row " + row, MIN, x -> x.steer(row, 0, 1, 4));
        }
        for (int off : NO_OFFS) {
            refused("steer off " + off, MIN, x -> x.steer(2, off, 1, 4));
        }
        for (int n : new int[] {-1, 1501, MIN, MAX}) {
            refused("steer n " + n, MIN, x -> x.steer(2, 0, n, 4));
        }
        for (int what : new int[] {-1, 6, MIN, MAX}) {
            refused("steer what " + what, MIN, x -> x.steer(2, 0, 1, what));
        }
    }

    /** "NONE: no such ones." */
    private static void hunt() {
        for (int off : NO_OFFS) {
            refused("hunt off " + off, -1, x -> x.hunt(off, 0));
        }
        for (int what : new int[] {-1, 4, MIN, MAX}) {
            refused("hunt what " + what, -1, x -> x.hunt(0, what));
        }
    }

    /** "(1 .. 3600; a at most b) in n STEPS (0 .. 200) .. NONE: no such ones." */
    private static void worst() {
        for (int off : NO_OFFS) {
            refused("worst a " + off, -1, x -> x.worst(off, 1799, 1800, 1, 0));
            refused("worst b " + off, -1, x -> x.worst(-1800, off, 1800, 1, 0));
        }
        refused("worst of b alone beyond", -1, x -> x.worst(1800, 1800, 1, 0, 0));
        refused("worst of a and b below", -1, x -> x.worst(-1801, -1801, 1, 0, 0));
        refused("worst a above b by one", -1, x -> x.worst(6, 5, 1, 1, 0));
        refused("worst a above b", -1, x -> x.worst(1799, -1800, 1, 1, 0));
        for (int c : new int[] {0, -1, 3601, MIN, MAX}) {
            refused("worst c " + c, -1, x -> x.worst(4, 5, c, 1, 0));
        }
        for (int n : new int[] {-1, 201, MIN, MAX}) {
            refused("worst n " + n, -1, x -> x.worst(4, 5, 1, n, 0));
        }
        for (int what : new int[] {-1, 2, MIN, MAX}) {
            refused("worst what " + what, -1, x -> x.worst(4, 5, 1, 1, what));
        }
    }

    /** "a bound (0 .. 1800) in n STEPS (1 .. 500) .. NONE: no such ones." */
    private static void holds() {
        for (int bound : new int[] {-1, 1801, MIN, MAX}) {
            refused("holds bound " + bound, -1, x -> x.holds(bound, 1));
        }
        for (int n : new int[] {0, -1, 501, MIN, MAX}) {
            refused("holds n " + n, -1, x -> x.holds(1800, n));
        }
    }

    // ---- promises 13 to 17 ----

    /** "(STEPS above those of MARKS ahead) .. NONE: no such ones, there are 12." */
    private static void mark() {
        for (int step : new int[] {0, -1, 201, MIN, MAX}) {
            refused("mark step " + step, -1, x -> x.mark(step, 0));
            refused(() -> withTrialOf(1), "first mark, step " + step, -1, x -> x.mark(step, 0));
        }
        for (int step : new int[] {9, 8, 2, 1}) {
            refused("mark not above 9: " + step, -1, x -> x.mark(step, 0));
        }
        for (int off : NO_OFFS) {
            refused("mark off " + off, -1, x -> x.mark(10, off));
        }
        for (int step : new int[] {13, 200}) {
            refused(RefusedTest::withFullMarks, "a 13th mark, " + step, -1, x -> x.mark(step, 100));
        }
    }

    /** "FITS by D (0 .. 3600) from OFF .. NONE: no such ones." */
    private static void fits() {
        for (int d : new int[] {-1, 3601, MIN, MAX}) {
            refused("fits d " + d, -1, x -> x.fits(d, 100, 0));
        }
        for (int off : NO_OFFS) {
            refused("fits off " + off, -1, x -> x.fits(0, off, 0));
        }
        for (int what : new int[] {-1, 4, MIN, MAX}) {
            refused("fits what " + what, -1, x -> x.fits(0, 100, what));
        }
        for (int off : new int[] {-1801, 1800}) {
            for (int what = 0; what < 4; what++) {
                int which = what;
                refused(() -> seenFromBeyond(off), "fits off " + off + " what " + what, -1, x -> x.fits(0, off, which));
                refused(() -> seenFromBeyond(off), "suspect off " + off + " what " + what, -1, x -> x.suspect(0, off, 0, which));
                refused(() -> seenFromBeyond(off), "parts off " + off + " what " + what, -1, x -> x.parts(0, off, 9, which));
            }
        }
    }

    /** "NONE: there is none such." */
    private static void suspect() {
        HuntingRudder asked = furnished();
        int suspects = asked.fits(0, 100, 1);
        C.due("the object has SUSPECTS of one PART", suspects > 1 && asked.fits(0, 100, 0) == 1, true);
        for (int what = 0; what < 4; what++) {
            int which = what;
            for (int k : new int[] {-1, suspects, suspects + 1, MIN, MAX}) {
                refused("suspect k " + k + " what " + which, -1, x -> x.suspect(0, 100, k, which));
            }
        }
        for (int d : new int[] {-1, 3601, MIN, MAX}) {
            refused("suspect d " + d, -1, x -> x.suspect(d, 100, 0, 0));
        }
        for (int off : NO_OFFS) {
            refused("suspect off " + off, -1, x -> x.suspect(0, off, 0, 0));
        }
        for (int what : new int[] {-1, 4, MIN, MAX}) {
            refused("suspect what " + what, -1, x -> x.suspect(0, 100, 0, what));
        }
    }

    /** "in n STEPS (1 .. 200) .. NONE: no ROWS, fewer than two SUSPECTS, no such ones." */
    private static void parts() {
        for (int d : new int[] {-1, 3601, MIN, MAX}) {
            refused("parts d " + d, -1, x -> x.parts(d, 100, 1, 0));
        }
        for (int off : NO_OFFS) {
            refused("parts off " + off, -1, x -> x.parts(0, off, 1, 0));
        }
        for (int n : new int[] {0, -1, 201, MIN, MAX}) {
            refused("parts n " + n, -1, x -> x.parts(0, 100, n, 0));
        }
        for (int what : new int[] {-1, 2, MIN, MAX}) {
            refused("parts what " + what, -1, x -> x.parts(0, 100, 1, what));
        }
    }

    // ---- promises 18 to 20 ----

    /** "NONE: there is none such", "NONE: bits of no GEARS", "no such what". */
    private static void gears() {
        for (int letters : new int[] {0, 1, 4, -1, MIN, MAX, 4 << 25, 1 << 30, 1 << 25 | 1}) {
            refused("named(" + letters + ")", -1, x -> x.named(letters));
        }
        for (int gears : new int[] {-1, 8, 9, 64, MIN, MAX}) {
            refused("safe(" + gears + ")", -1, x -> x.safe(gears));
            refused("drill a " + gears, -1, x -> x.drill(gears, 1, 0));
            refused("drill b " + gears, -1, x -> x.drill(1, gears, 0));
            refused("drill from " + gears + " to itself", -1, x -> x.drill(gears, gears, 0));
        }
        for (int what : new int[] {-1, -2, MIN}) {
            refused("drill what " + what, -1, x -> x.drill(1, 4, what));
        }
    }

    // ---- promises 21 to 25 ----

    /** "false: no such OFF"; "Integer.MIN_VALUE, and nothing happens: .. no such ORDER". */
    private static void trial() {
        for (int off : NO_OFFS) {
            refused("begin(" + off + ")", 0, x -> x.begin(off) ? 1 : 0);
            refused(RefusedTest::withoutTrial, "first begin(" + off + ")", 0, x -> x.begin(off) ? 1 : 0);
        }
        for (int order : new int[] {-31, 31, MIN, MAX}) {
            refused("order(" + order + ")", MIN, x -> x.order(order));
        }
        refused(() -> withTrialOf(0), "back() with no STEPS", -1, x -> x.back());
    }

    /** "no trial": of order, back and now. */
    private static void noTrial() {
        for (int order : new int[] {-30, 0, 30, 31}) {
            refused(RefusedTest::withoutTrial, "no trial: order(" + order + ")", MIN, x -> x.order(order));
        }
        refused(RefusedTest::withoutTrial, "no trial: back()", -1, x -> x.back());
        for (int what = -1; what <= 6; what++) {
            int which = what;
            refused(RefusedTest::withoutTrial, "no trial: now(" + which + ")", MIN, x -> x.now(which));
        }
    }

    /** "there were 100." */
    private static void fullTrial() {
        for (int order : new int[] {-30, 0, 30, 31}) {
            refused(() -> withTrialOf(100), "a 101st order(" + order + ")", MIN, x -> x.order(order));
        }
    }

    /** "no such what", "NONE for another what". */
    private static void nowAndCount() {
        for (int what : new int[] {-1, 6, MIN, MAX}) {
            refused("now(" + what + ")", MIN, x -> x.now(what));
        }
        for (int what : new int[] {-1, 14, MIN, MAX}) {
            refused("count(" + what + ")", -1, x -> x.count(what));
        }
    }
}
