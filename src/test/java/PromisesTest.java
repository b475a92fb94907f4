/** Each promise of the document by hand: what is ordinary, the edges that it names, wrong inputs. */
public final class PromisesTest {
    private static final int MIN = Integer.MIN_VALUE;
    private static final int MAX = Integer.MAX_VALUE;
    private static final Checks C = new Checks();

    public static void main(String[] args) {
        newObject();
        feed();
        text();
        fault();
        part();
        ship();
        row();
        led();
        ledByParts();
        steer();
        hunt();
        worst();
        holds();
        markAndWipe();
        fits();
        fitsOfPairs();
        everyPairIsFound();
        parts();
        named();
        safe();
        drill();
        trial();
        count();
        C.end("PromisesTest");
    }

    private static void newObject() {
        HuntingRudder x = new HuntingRudder();
        int[] due = {0, 0, 0, 0, 0, 0, 10, 3, 0, 0, 0, 4, 0, 0};
        for (int what = 0; what < due.length; what++) {
            C.due("new count(" + what + ")", x.count(what), due[what]);
        }
        C.due("new text(1)", x.text(1), -2);
        C.due("new fault(0)", x.fault(0), 0);
        C.due("new fault(1)", x.fault(1), -1);
        C.due("new led", x.led(-7, 1500, 4), -7);
        C.due("new safe(0)", x.safe(0), 1);
        C.due("new drill(0, 0, 0)", x.drill(0, 0, 0), 0);
        C.due("new now(5)", x.now(5), MIN);
        C.due("new wipe()", x.wipe(), 0);
        C.due("NONE", HuntingRudder.NONE, -1);
    }

    private static void feed() {
        HuntingRudder x = new HuntingRudder();
        for (int k = 1; k <= 30; k++) {
            C.due("feed " + k, x.feed(0x20202020, 0x20202020, 0x20202020, 0x20202020, 0x20202020), 20 * k);
        }
        C.due("feed 31", x.feed(1, 1, 1, 1, 1), -1);
        C.due("text(601)", x.text(601), -2);
        C.due("text(600): what was refused is not there", x.text(600), 0);
        C.due("feed on an empty TAPE", x.feed(0x77686565, 0x6c20373b, -1, -1, -1), 20);
        C.due("the highest byte first", x.text(8), 1);
        C.due("wheel 7;", x.led(0, 1, 0), 7);
        x.feed(0xff202020, 0, 0, 0, 0);
        C.due("a byte of 255", x.text(1), -1);
        C.due("a byte of 255 is no TOKEN", x.fault(1), 0);
    }

    private static void text() {
        HuntingRudder x = C.with("wheel 5;row 1 2;");
        C.due("-2: not so many", x.text(1), -2);
        Checks.feed(x, "wheel 6;wheel");
        C.due("-2: below 0", x.text(-1), -2);
        C.due("-2: far below 0", x.text(MIN), -2);
        C.due("-2: the TAPE has 20", x.text(21), -2);
        C.due("the TEXT ahead stays with -2", x.led(0, 1, 0), 5);
        C.due("NONE with a FAULT", x.text(13), -1);
        C.due("the TEXT ahead stays with a FAULT", x.led(0, 1, 0), 5);
        C.due("its ROWS too", x.count(2), 1);
        C.due("the TAPE is empty behind a FAULT", x.text(1), -2);
        Checks.feed(x, "wheel 6;wheel");
        C.due("the first 8 bytes alone", x.text(8), 1);
        C.due("a new TEXT", x.led(0, 1, 0), 6);
        C.due("the old one is gone", x.count(2), 0);
        C.due("the TAPE is empty behind a TEXT", x.text(1), -2);
        C.due("LINES of all kinds", Checks.read(x, "wheel 1;gear a;safe a;row 1 1;"), 4);
        C.due("blanks alone", Checks.read(x, " \n "), 0);
        C.due("text(0)", x.text(0), 0);
        C.due("nothing is told then", x.count(0), 0);
    }

    private static void fault() {
        HuntingRudder x = new HuntingRudder();
        Checks.read(x, "wheel 1;;");
        C.due("fault(0)", x.fault(0), 1);
        C.due("fault(1)", x.fault(1), 8);
        C.due("fault(2)", x.fault(2), -1);
        C.due("fault(-1)", x.fault(-1), -1);
        x.text(99);
        C.due("fault(0) behind -2", x.fault(0), 1);
        C.due("fault(1) behind -2", x.fault(1), 8);
        x.text(0);
        C.due("fault(0) without", x.fault(0), 0);
        C.due("fault(1) without", x.fault(1), -1);
    }

    private static void part() {
        int[] low = {0, 0, 1, 0, 0};
        int[] high = {8, 8, 9, 3, 2};
        HuntingRudder x = new HuntingRudder();
        for (int part = 0; part < 5; part++) {
            C.due("part below", x.part(part, low[part] - 1), false);
            C.due("part above", x.part(part, high[part] + 1), false);
            C.due("part most", x.part(part, high[part]), true);
            C.due("part is most", x.count(9 + part), high[part]);
            C.due("part least", x.part(part, low[part]), true);
            C.due("part is least", x.count(9 + part), low[part]);
            C.due("part far", x.part(part, MAX) || x.part(part, MIN), false);
            C.due("part stays", x.count(9 + part), low[part]);
        }
        C.due("part -1", x.part(-1, 1), false);
        C.due("part 5", x.part(5, 1), false);
        C.due("part MIN", x.part(MIN, 1), false);
    }

    private static void ship() {
        int[] low = {1, 1, -9};
        int[] high = {20, 9, 9};
        HuntingRudder x = new HuntingRudder();
        for (int what = 0; what < 3; what++) {
            C.due("ship below", x.ship(what, low[what] - 1), false);
            C.due("ship above", x.ship(what, high[what] + 1), false);
            C.due("ship most", x.ship(what, high[what]), true);
            C.due("ship is most", x.count(6 + what), high[what]);
            C.due("ship least", x.ship(what, low[what]), true);
            C.due("ship is least", x.count(6 + what), low[what]);
        }
        C.due("ship -1", x.ship(-1, 1), false);
        C.due("ship 3", x.ship(3, 1), false);
        C.due("WIND may be -1", x.ship(2, -1) && x.count(8) == -1, true);
    }

    private static void row() {
        HuntingRudder x = C.with("row 9 - 30 0 30;row 1 1 2 3 4 5 6 7 8 9 10 11 12;");
        C.due("row(0, 0)", Checks.row(x, 0, 0), 9);
        C.due("row(0, 1)", Checks.row(x, 0, 1), 3);
        C.due("row(0, 2)", Checks.row(x, 0, 2), -30);
        C.due("row(0, 4)", Checks.row(x, 0, 4), 30);
        C.due("row(0, 5)", Checks.row(x, 0, 5), 1_000_002);
        C.due("row(0, -1)", Checks.row(x, 0, -1), 1_000_002);
        C.due("row(0, MIN)", Checks.row(x, 0, MIN), 1_000_002);
        C.due("row(0, MAX)", Checks.row(x, 0, MAX), 1_000_002);
        C.due("row(1, 1)", Checks.row(x, 1, 1), 12);
        C.due("row(1, 13)", Checks.row(x, 1, 13), 12);
        C.due("row(1, 14)", Checks.row(x, 1, 14), 1_000_002);
        C.due("row(2, 0)", Checks.row(x, 2, 0), 1_000_001);
        C.due("row(-1, 0)", Checks.row(x, -1, 0), 1_000_001);
        C.due("no ROW is asked ahead of no what", Checks.row(x, 2, -1), 1_000_001);
        C.due("row() without TEXT", Checks.row(new HuntingRudder(), 0, 0), 1_000_001);
    }

    private static void led() {
        HuntingRudder x = C.with("wheel 30;");
        // RAM 6, 12, ..; RUDDER 4, 8, ..; TURN 4/3, (8-1)/3, (12-3)/3, (16-6)/3
        int[] ram = {0, 6, 12, 18, 24, 30, 30};
        int[] rudder = {0, 4, 8, 12, 16, 20, 24};
        int[] turn = {0, 1, 3, 6, 9, 12, 16};
        int[] off = {-7, -6, -3, 3, 12, 24, 40};
        for (int n = 0; n < 7; n++) {
            C.due("led wheel " + n, x.led(-7, n, 0), n == 0 ? 0 : 30);
            C.due("led ram " + n, x.led(-7, n, 1), ram[n]);
            C.due("led rudder " + n, x.led(-7, n, 2), rudder[n]);
            C.due("led turn " + n, x.led(-7, n, 3), turn[n]);
            C.due("led off " + n, x.led(-7, n, 4), off[n]);
            C.due("led order " + n, x.led(-7, n, 5), n == 0 ? 0 : 30);
        }
        C.due("beyond 1799", x.led(1799, 1, 4), -1800);
        C.due("below -1800", C.with("wheel 0-30;").led(-1800, 1, 4), 1799);
        C.due("led(-1800, 0, 4)", x.led(-1800, 0, 4), -1800);
        C.due("led(-1801, 0, 4)", x.led(-1801, 0, 4), MIN);
        C.due("led(1800, 0, 4)", x.led(1800, 0, 4), MIN);
        C.due("led(0, -1, 4)", x.led(0, -1, 4), MIN);
        C.due("led(0, 1501, 4)", x.led(0, 1501, 4), MIN);
        C.due("led(0, 1500, 2)", x.led(0, 1500, 2), 30);
        C.due("led(0, 0, -1)", x.led(0, 0, -1), MIN);
        C.due("led(0, 0, 6)", x.led(0, 0, 6), MIN);
        C.due("30 at most", C.with("wheel 31;").led(0, 1, 5), 30);
        C.due("-30 at least", C.with("wheel 0-9999;").led(0, 1, 5), -30);
        C.due("each NAME is of the STATE ahead", C.with("wheel off+turn+wheel+ram+rudder;").led(3, 2, 5), 14);
    }

    private static void ledByParts() {
        HuntingRudder x = C.with("wheel 10;");
        x.part(3, 2);
        C.due("LAG 2: WHEEL behind 2", x.led(0, 2, 0), 0);
        C.due("LAG 2: ORDER behind 2", x.led(0, 2, 5), 10);
        C.due("LAG 2: WHEEL behind 3", x.led(0, 3, 0), 10);
        x.part(3, 3);
        C.due("LAG 3: WHEEL behind 3", x.led(0, 3, 0), 0);
        C.due("LAG 3: WHEEL behind 4", x.led(0, 4, 0), 10);
        x.part(3, 0);
        x.part(0, 8);
        C.due("AIR 8: RAM by what it is more", x.led(0, 1, 1), 2);
        C.due("AIR 8: RAM stays", x.led(0, 2, 1), 2);
        x.part(0, 0);
        x.part(1, 5);
        C.due("PIN 5: RUDDER by what it is more", x.led(0, 1, 2), 1);
        C.due("PIN 5: RUDDER behind 2", x.led(0, 2, 2), 5);
        C.due("PIN 5: RUDDER stays", x.led(0, 9, 2), 5);
        x.part(1, 0);
        x.part(2, 9);
        C.due("RATE 9: RUDDER with RAM", x.led(0, 1, 2), 6);
        x.part(2, 1);
        C.due("RATE 1", x.led(0, 3, 2), 3);
        x.part(4, 1);
        C.due("VALVE 1: not to more", x.led(0, 9, 2), 0);
        x.part(4, 2);
        C.due("VALVE 2: to more", x.led(0, 3, 2), 3);
        x.part(4, 0);
        x.part(2, 4);
        x.ship(0, 20);
        x.ship(1, 9);
        x.ship(2, -9);
        C.due("TURN by SPEED and INERTIA", x.led(0, 2, 3), 1);
        C.due("OFF by TURN and WIND", x.led(0, 2, 4), -17);
        HuntingRudder y = C.with("wheel 0-7;");
        y.ship(0, 1);
        y.ship(1, 1);
        C.due("quotients are cut towards 0", y.led(0, 9, 3), 0);
    }

    private static void steer() {
        HuntingRudder x = C.with("wheel 1;row 2 10 -10;");
        int[] order = {0, 10, 10, -10, -10, -10, -10};
        for (int n = 0; n < order.length; n++) {
            C.due("steer order " + n, x.steer(0, 5, n, 5), order[n]);
        }
        C.due("steer(0, 0, 1500, 2)", x.steer(0, 0, 1500, 2), -10);
        C.due("steer ram 2", x.steer(0, 0, 2, 1), 10);
        C.due("steer(1, ..)", x.steer(1, 0, 0, 0), MIN);
        C.due("steer(-1, ..)", x.steer(-1, 0, 0, 0), MIN);
        C.due("steer off", x.steer(0, 1800, 0, 4), MIN);
        C.due("steer n", x.steer(0, 0, 1501, 4), MIN);
        C.due("steer n below", x.steer(0, 0, -1, 4), MIN);
        C.due("steer what", x.steer(0, 0, 0, 6), MIN);
        C.due("steer what below", x.steer(0, 0, 0, -1), MIN);
    }

    private static void hunt() {
        HuntingRudder x = new HuntingRudder();
        C.due("SETTLES at once", x.hunt(5, 0), 1);
        C.due("FIRST", x.hunt(5, 1), 0);
        C.due("PERIOD", x.hunt(5, 2), 1);
        C.due("SWING", x.hunt(5, 3), 0);
        x.ship(2, 9);
        C.due("round by WIND 9 HUNTS", x.hunt(0, 0), 2);
        C.due("its PERIOD", x.hunt(0, 2), 400);
        C.due("its SWING", x.hunt(0, 3), 3591);
        x.ship(2, 1);
        C.due("round by WIND 1 in 3600 STEPS is LOST", x.hunt(0, 0), 3);
        C.due("no FIRST", x.hunt(0, 1), -1);
        C.due("no PERIOD", x.hunt(0, 2), -1);
        C.due("SWING of all STEPS", x.hunt(0, 3), 1500);
        // One order of 30, then its echo dies out: the three ORDERS ahead belong to the STATE.
        HuntingRudder y = C.with("if off=3 wheel 1;");
        y.part(1, 8);
        C.due("ORDERS belong to the STATE", y.hunt(3, 1), 3);
        C.due("a wheel that stays put, later", y.hunt(4, 1), 0);
        C.due("hunt(1800, 0)", x.hunt(1800, 0), -1);
        C.due("hunt(-1801, 0)", x.hunt(-1801, 0), -1);
        C.due("hunt(0, -1)", x.hunt(0, -1), -1);
        C.due("hunt(0, 4)", x.hunt(0, 4), -1);
    }

    private static void worst() {
        HuntingRudder x = new HuntingRudder();
        C.due("of several the first", x.worst(-10, 10, 5, 3, 1), -10);
        C.due("the greatest", x.worst(-10, 10, 5, 3, 0), 10);
        C.due("up to b", x.worst(0, 10, 4, 0, 0), 8);
        C.due("b itself", x.worst(0, 10, 5, 0, 0), 10);
        x.ship(2, 9);
        C.due("behind any STEP", x.worst(-3, 3, 3, 10, 0), 93);
        C.due("behind 0, too", x.worst(-95, 0, 95, 10, 0), 95);
        C.due("n 200", x.worst(0, 0, 1, 200, 0), 1800);
        C.due("all the way round", x.worst(-1800, 1799, 3600, 0, 0), 1800);
        C.due("a above b", x.worst(1, 0, 1, 0, 0), -1);
        C.due("a", x.worst(-1801, 0, 1, 0, 0), -1);
        C.due("b", x.worst(0, 1800, 1, 0, 0), -1);
        C.due("c 0", x.worst(0, 1, 0, 0, 0), -1);
        C.due("c 3601", x.worst(0, 1, 3601, 0, 0), -1);
        C.due("n -1", x.worst(0, 1, 1, -1, 0), -1);
        C.due("n 201", x.worst(0, 1, 1, 201, 0), -1);
        C.due("what -1", x.worst(0, 1, 1, 0, -1), -1);
        C.due("what 2", x.worst(0, 1, 1, 0, 2), -1);
    }

    private static void holds() {
        HuntingRudder x = C.with("wheel 0-off*9;");
        C.due("nothing moves", x.holds(0, 500), 1);
        x.ship(2, 1);
        int speed = x.holds(3, 200);
        C.due("a SPEED holds", speed >= 1 && speed <= 20, true);
        C.due("SPEED is as it was", x.count(6), 10);
        x.ship(0, speed);
        C.due("it does hold", x.worst(0, 0, 1, 200, 0) <= 3, true);
        for (int less = 1; less < speed; less++) {
            x.ship(0, less);
            C.due("less does not hold: " + less, x.worst(0, 0, 1, 200, 0) > 3, true);
        }
        x.ship(2, 9);
        C.due("none does", x.holds(8, 1), -2);
        C.due("at the bound", x.holds(9, 1), 1);
        C.due("bound -1", x.holds(-1, 1), -1);
        C.due("bound 1801", x.holds(1801, 1), -1);
        C.due("bound 1800", x.holds(1800, 1), 1);
        C.due("n 0", x.holds(0, 0), -1);
        C.due("n 501", x.holds(0, 501), -1);
    }

    private static void markAndWipe() {
        HuntingRudder x = new HuntingRudder();
        C.due("step 0", x.mark(0, 0), -1);
        C.due("step 201", x.mark(201, 0), -1);
        C.due("off 1800", x.mark(1, 1800), -1);
        C.due("off -1801", x.mark(1, -1801), -1);
        for (int k = 1; k <= 11; k++) {
            C.due("mark " + k, x.mark(k * 2, -1800), k);
            C.due("the same STEP", x.mark(k * 2, 0), -1);
            C.due("an earlier STEP", x.mark(k * 2 - 1, 0), -1);
        }
        C.due("mark 12", x.mark(199, 1799), 12);
        C.due("mark 13", x.mark(200, 0), -1);
        C.due("MARKS", x.count(5), 12);
        C.due("wipe", x.wipe(), 12);
        C.due("wipe again", x.wipe(), 0);
        C.due("no MARKS", x.count(5), 0);
        C.due("from 1 again", x.mark(1, 0), 1);
    }

    private static void fits() {
        HuntingRudder x = C.with("wheel 10;");
        C.due("without MARKS all fits", x.fits(0, 0, 0), 0);
        C.due("one SUSPECT without PARTS", x.fits(0, 0, 1), 1);
        C.due("none in all", x.fits(0, 0, 3), 0);
        x.mark(1, 1);
        C.due("as it is", x.fits(0, 0, 0), 0);
        x.mark(2, 1);
        C.due("not as it is", x.fits(0, 0, 0) == 0, false);
        C.due("3 away does not fit by 2", x.fits(2, 0, 0), 1);
        C.due("3 away fits by 3", x.fits(3, 0, 0), 0);
        x.wipe();
        x.mark(9, 0);
        // OFF stays if RUDDER can't go: AIR 8 leaves RAM 2 and TURN 0, PIN 8 RUDDER 2, VALVE 1 RUDDER 0.
        C.due("FEWEST 1", x.fits(0, 0, 0), 1);
        C.due("SUSPECTS", x.fits(0, 0, 1), 3);
        C.due("in some", x.fits(0, 0, 2), 1 | 2 | 16);
        C.due("in all", x.fits(0, 0, 3), 0);
        int[][] due = {{0, 8, -1, -1}, {1, 8, -1, -1}, {4, 1, -1, -1}, {-1, -1, -1, -1}};
        for (int k = 0; k < due.length; k++) {
            for (int what = 0; what < 4; what++) {
                C.due("suspect " + k + " " + what, x.suspect(0, 0, k, what), due[k][what]);
            }
        }
        x.part(0, 8);
        C.due("with the value that it has none FAILS", x.fits(0, 0, 0), 0);
        x.part(0, 0);
        C.due("the PARTS count anew", x.fits(0, 0, 0), 1);
        x.wipe();
        x.mark(1, 1799);
        C.due("without going round", x.fits(9, -1800, 0), -2);
        C.due("no SUSPECTS", x.fits(9, -1800, 1), 0);
        C.due("some of none", x.fits(9, -1800, 2), 0);
        C.due("suspect 0 of none", x.suspect(9, -1800, 0, 0), -1);
        C.due("d 3600", x.fits(3600, 0, 0), 0);
        C.due("d -1", x.fits(-1, 0, 0), -1);
        C.due("d 3601", x.fits(3601, 0, 0), -1);
        C.due("off", x.fits(0, 1800, 0), -1);
        C.due("what -1", x.fits(0, 0, -1), -1);
        C.due("what 4", x.fits(0, 0, 4), -1);
        C.due("suspect d", x.suspect(3601, 0, 0, 0), -1);
        C.due("suspect off", x.suspect(3600, -1801, 0, 0), -1);
        C.due("suspect k", x.suspect(3600, 0, -1, 0), -1);
        C.due("suspect what", x.suspect(3600, 0, 0, 4), -1);
    }

    private static void fitsOfPairs() {
        HuntingRudder x = C.with("wheel 12;row 1 30;row 9 5;");
        // RATE and LAG have failed: OFF first goes with STEP 3, and fast then.
        x.part(2, 6);
        x.part(3, 2);
        int[] off = {0, x.led(0, 2, 4), x.led(0, 3, 4), x.led(0, 4, 4), x.led(0, 5, 4)};
        x.part(2, 4);
        x.part(3, 0);
        x.mark(2, off[1]);
        x.mark(3, off[2]);
        x.mark(4, off[3]);
        x.mark(5, off[4]);
        C.due("FEWEST 2", x.fits(0, 0, 0), 2);
        C.due("RATE and LAG in all", x.fits(0, 0, 3), 4 | 8);
        int n = x.fits(0, 0, 1);
        for (int k = 0; k < n; k++) {
            C.due("first PART " + k, x.suspect(0, 0, k, 0), 2);
            C.due("first value " + k, x.suspect(0, 0, k, 1), 9 - n + 1 + k);
            C.due("second PART " + k, x.suspect(0, 0, k, 2), 3);
            C.due("second value " + k, x.suspect(0, 0, k, 3), 2);
        }
        C.due("no more", x.suspect(0, 0, n, 0), -1);
    }

    /** Each two PARTS with each two values: the WAKE that they make has them among its SUSPECTS, in order. */
    private static void everyPairIsFound() {
        int[] low = {0, 0, 1, 0, 0};
        int[] high = {8, 8, 9, 3, 2};
        int[] first = {0, 0, 4, 0, 0};
        int found = 0;
        for (int p = 0; p < 5; p++) {
            for (int q = p + 1; q < 5; q++) {
                for (int v = low[p]; v <= high[p]; v++) {
                    for (int w = low[q]; w <= high[q]; w++) {
                        HuntingRudder x = C.with("wheel 0-off/3-turn*4;");
                        x.part(p, v);
                        x.part(q, w);
                        int[] off = new int[61];
                        for (int step = 5; step <= 60; step += 5) {
                            off[step] = x.led(300, step, 4);
                        }
                        x.part(p, first[p]);
                        x.part(q, first[q]);
                        for (int step = 5; step <= 60; step += 5) {
                            x.mark(step, off[step]);
                        }
                        int fewest = x.fits(0, 300, 0);
                        C.due("at most the two that failed", fewest >= 0 && fewest <= 2, true);
                        if (fewest == 2) {
                            found++;
                            C.due("PARTS " + p + " " + v + ", " + q + " " + w, isAmongSuspects(x, p, v, q, w), true);
                        }
                    }
                }
            }
        }
        C.due("many pairs were needed: " + found, found > 100, true);
    }

    private static boolean isAmongSuspects(HuntingRudder x, int p, int v, int q, int w) {
        boolean among = false;
        int ahead = -1;
        for (int k = 0; k < x.fits(0, 300, 1); k++) {
            int[] s = {x.suspect(0, 300, k, 0), x.suspect(0, 300, k, 1), x.suspect(0, 300, k, 2), x.suspect(0, 300, k, 3)};
            int place = s[0] << 12 | s[2] << 8 | s[1] << 4 | s[3];
            C.due("SUSPECTS in order", place > ahead, true);
            ahead = place;
            among |= s[0] == p && s[1] == v && s[2] == q && s[3] == w;
        }
        return among;
    }

    private static void parts() {
        HuntingRudder x = C.with("wheel 10;row 9 2;row 1 -30;row 1 30;row 1 -30;");
        x.mark(9, 0);
        // SUSPECTS AIR 8, PIN 8 and VALVE 1: by 2 none moves OFF; by -30 AIR starts with -6, PIN
        // later, VALVE 1 as if nothing had failed; by 30 VALVE 1 stays.
        C.due("three SUSPECTS", x.fits(0, 0, 1), 3);
        C.due("none has gone yet", x.parts(0, 0, 1, 1), 2);
        C.due("the first of them that parts", x.parts(0, 0, 9, 0), 1);
        C.due("its greatest group", x.parts(0, 0, 9, 1), 1);
        C.due("n 0", x.parts(0, 0, 0, 0), -1);
        C.due("n 201", x.parts(0, 0, 201, 0), -1);
        C.due("n 200", x.parts(0, 0, 200, 1), 1);
        C.due("d", x.parts(3601, 0, 9, 0), -1);
        C.due("off", x.parts(0, 1800, 9, 0), -1);
        C.due("what 2", x.parts(0, 0, 9, 2), -1);
        C.due("what -1", x.parts(0, 0, 9, -1), -1);
        C.due("one SUSPECT", x.parts(3600, 0, 9, 0), -1);
        Checks.read(x, "wheel 10;row 9 2;");
        C.due("one group", x.parts(0, 0, 9, 1), 3);
        C.due("the only ROW", x.parts(0, 0, 9, 0), 0);
        Checks.read(x, "wheel 10;");
        C.due("no ROWS", x.parts(0, 0, 9, 0), -1);
        C.due("no ROWS, no group", x.parts(0, 0, 9, 1), -1);
    }

    private static void named() {
        HuntingRudder x = C.with("gear z;gear abcdef if z;gear ab;");
        C.due("z", x.named(Checks.letters("z")), 0);
        C.due("abcdef", x.named(Checks.letters("abcdef")), 1);
        C.due("ab", x.named(Checks.letters("ab")), 2);
        C.due("a", x.named(Checks.letters("a")), -1);
        C.due("abc", x.named(Checks.letters("abc")), -1);
        C.due("b behind nothing", x.named(2), -1);
        C.due("0", x.named(0), -1);
        C.due("-1", x.named(-1), -1);
        C.due("bits above six letters", x.named(Checks.letters("z") | 1 << 30), -1);
    }

    private static void safe() {
        HuntingRudder x = C.with("safe a and not b or c;gear a;gear b;gear c;");
        int[] due = {0, 1, 0, 0, 1, 1, 1, 1};
        for (int gears = 0; gears < 8; gears++) {
            C.due("safe(" + gears + ")", x.safe(gears), due[gears]);
        }
        C.due("safe(8)", x.safe(8), -1);
        C.due("safe(-1)", x.safe(-1), -1);
        C.due("safe(MIN)", x.safe(MIN), -1);
        HuntingRudder y = C.with("gear a;gear b;gear c;gear d;gear e;gear f;safe f;");
        C.due("six GEARS", y.safe(63), 1);
        C.due("six GEARS, the last off", y.safe(31), 0);
        C.due("a seventh bit", y.safe(64), -1);
        C.due("without safe", C.with("gear a;").safe(0), 1);
    }

    private static void drill() {
        HuntingRudder x = C.with("gear a;gear b;gear c;");
        int[] due = {3, 0, 1, 2, -1};
        for (int what = 0; what < due.length; what++) {
            C.due("drill(0, 7, " + what + ")", x.drill(0, 7, what), due[what]);
        }
        C.due("off as on", x.drill(7, 0, 0), 3);
        C.due("what -1", x.drill(0, 7, -1), -1);
        C.due("a", x.drill(8, 0, 0), -1);
        C.due("b", x.drill(0, 8, 0), -1);
        C.due("a below 0", x.drill(-1, 0, 0), -1);
        C.due("b below 0", x.drill(0, MIN, 0), -1);
        C.due("what far", x.drill(0, 7, MAX), -1);
        HuntingRudder y = C.with("gear a if b;gear b if not a;safe not (a and not b);");
        int[] both = {2, 1, 0};
        for (int what = 0; what < both.length; what++) {
            C.due("by GEARS ahead " + what, y.drill(0, 3, what), both[what]);
        }
        C.due("safe behind it", y.drill(3, 1, 0), -2);
        C.due("-2 for its GEARS too", y.drill(3, 1, 1), -2);
        C.due("ahead of it safe isn't asked", y.drill(1, 1, 0), 0);
        // A Gray code: a turns freely, each other one only behind a one that follows zeros.
        HuntingRudder z = C.with("gear a;gear b if a;gear c if b and not a;gear d if c and not b and not a;"
            + "gear e if d and not c and not b and not a;gear f if e and not d and not c and not b and not a;");
        C.due("63 changes", z.drill(0, 32, 0), 63);
        C.due("the first", z.drill(0, 32, 1), 0);
        C.due("the middle", z.drill(0, 32, 32), 5);
        C.due("the last", z.drill(0, 32, 63), 0);
        C.due("no more", z.drill(0, 32, 64), -1);
    }

    private static void trial() {
        HuntingRudder x = new HuntingRudder();
        C.due("order without trial", x.order(0), MIN);
        C.due("back without trial", x.back(), -1);
        C.due("now without trial", x.now(5), MIN);
        C.due("begin(1800)", x.begin(1800), false);
        C.due("begin(-1801)", x.begin(-1801), false);
        C.due("now: still no trial", x.now(5), MIN);
        C.due("begin(-1800)", x.begin(-1800), true);
        C.due("now(4)", x.now(4), -1800);
        C.due("order(-31)", x.order(-31), MIN);
        C.due("order(31)", x.order(31), MIN);
        C.due("nothing happened", x.now(5), 0);
        C.due("round", x.order(-30), 1799);
        C.due("wheel", x.now(0), -30);
        C.due("ram", x.now(1), -6);
        C.due("rudder", x.now(2), -4);
        C.due("turn", x.now(3), -1);
        C.due("off", x.now(4), 1799);
        C.due("STEPS", x.now(5), 1);
        C.due("now(6)", x.now(6), MIN);
        C.due("now(-1)", x.now(-1), MIN);
        C.due("back to the start", x.back(), 0);
        C.due("as it was then", x.now(4) == -1800 && x.now(0) == 0 && x.now(1) == 0 && x.now(2) == 0 && x.now(3) == 0, true);
        C.due("no further back", x.back(), -1);
        C.due("the same again", x.order(-30), 1799);
        x.part(3, 1);
        C.due("LAG 1: the ORDER of the STEP ahead", x.order(12) == MIN, false);
        C.due("its WHEEL", x.now(0), -30);
        C.due("back", x.back(), 1);
        C.due("its RAM", x.now(1), -6);
        C.due("PARTS are not taken back", x.count(12), 1);
        C.due("nor are the ORDERS ahead lost", x.order(12) != MIN && x.now(0) == -30, true);
        C.due("12 comes then", x.order(0) != MIN && x.now(0) == 12, true);
        for (int k = 3; k < 100; k++) {
            C.due("order " + k, x.order(0) == MIN, false);
        }
        C.due("100 STEPS", x.now(5), 100);
        C.due("there were 100", x.order(0), MIN);
        C.due("back to 99", x.back(), 99);
        C.due("room for one", x.order(0) == MIN, false);
        C.due("and no more", x.order(0), MIN);
        C.due("a new text leaves the trial", x.text(0) == 0 && x.now(5) == 100, true);
        C.due("no such OFF: the trial stays", !x.begin(1800) && x.now(5) == 100, true);
        C.due("begin anew", x.begin(0) && x.now(5) == 0 && x.now(0) == 0, true);
        C.due("back at its start", x.back(), -1);
        C.due("no ORDER of the trial ahead", x.order(9) == 0 && x.now(0) == 0, true);
    }

    private static void count() {
        HuntingRudder x = C.with("wheel 1+off;if not (turn=0) wheel 2;gear a if a or not b;gear b;safe b;row 1 -1;row 2 2;row 3 3;");
        int[] due = {2, 2, 3, 3 + 4 + 1, 4 + 1, 0};
        for (int what = 0; what < due.length; what++) {
            C.due("count(" + what + ")", x.count(what), due[what]);
        }
        C.due("count(-1)", x.count(-1), -1);
        C.due("count(14)", x.count(14), -1);
        C.due("count(MIN)", x.count(MIN), -1);
        C.due("count(MAX)", x.count(MAX), -1);
    }
}
