/**
 * The boundary cases that the document's Terms name, a method for each sentence, which it quotes: the
 * last value on either side and the first one beyond. What a STEP does is seen by a trial by hand.
 */
public final class TermsEdgesTest {
    private static final int AIR = 0;
    private static final int PIN = 1;
    private static final int RATE = 2;
    private static final int LAG = 3;
    private static final int VALVE = 4;
    private static final int SPEED = 0;
    private static final int INERTIA = 1;
    private static final int WIND = 2;
    private static final int RAM_NOW = 1;
    private static final int RUDDER_NOW = 2;
    private static final int TURN_NOW = 3;
    private static final int OFF_NOW = 4;
    private static final Checks C = new Checks();

    public static void main(String[] args) {
        allButOffIsZeroAtFirst();
        wheelByLag();
        ordersOfThreeStepsAhead();
        ramByAir();
        ramComesNear();
        rudderByPinAndRate();
        rudderByValve();
        rudderHasStops();
        turnFromZero();
        turnGrowsAndShrinks();
        offGoesRoundByWind();
        offGoesRoundByTurn();
        huntFindsByStep1500();
        huntSettlesOrHunts();
        huntFromEveryOff();
        huntsThatAreLong();
        huntsOfMoreThan1024States();
        huntOfWholeStates();
        swingOfThePeriodAlone();
        worstGoesUpToB();
        worstOfSeveralTheFirst();
        worstBehindAnyStep();
        holdsWithTheLeastSpeed();
        holdsAtTheBound();
        fitsByDistance();
        fitsWithoutGoingRound();
        fewest();
        suspectsInOrder();
        pairsWithTheLeastAndGreatestValues();
        inAllOfThem();
        groupsByAllSteps();
        groupsOfManySuspects();
        rowOfTheLeastGreatestGroup();
        eachConditionForItself();
        drillByGearsAhead();
        drillTheFirstByGears();
        C.end("TermsEdgesTest");
    }

    private static HuntingRudder trialFrom(int off) {
        HuntingRudder x = new HuntingRudder();
        C.due("begin(" + off + ")", x.begin(off), true);
        return x;
    }

    private static void orders(HuntingRudder x, int times, int order) {
        for (int k = 0; k < times; k++) {
            x.order(order);
        }
    }

    private static int sign(int of) {
        return of > 0 ? 1 : of < 0 ? -1 : 0;
    }

    /** A quotient cut towards 0, without Java's own for numbers below 0. */
    private static int cut(int a, int b) {
        return sign(a) * (Math.abs(a) / b);
    }

    private static int round(int off) {
        return Math.floorMod(off + 1800, 3600) - 1800;
    }

    // ---- 1. the STATE and the STEP ----

    /** "ORDERS of the three STEPS ahead (0 at first, as all but OFF)". */
    private static void allButOffIsZeroAtFirst() {
        for (int off : new int[] {-1800, -1, 0, 1, 1799}) {
            HuntingRudder x = C.with("wheel 30;row 9 30;");
            x.begin(off);
            for (int what = 0; what < 6; what++) {
                int due = what == OFF_NOW ? off : 0;
                C.due("led at first " + what, x.led(off, 0, what), due);
                C.due("steer at first " + what, x.steer(0, off, 0, what), due);
                C.due("now at first " + what, x.now(what), due);
            }
        }
    }

    /** "WHEEL is the ORDER of LAG STEPS ahead (LAG 0: this one)." */
    private static void wheelByLag() {
        for (int lag = 0; lag <= 3; lag++) {
            HuntingRudder x = trialFrom(0);
            x.part(LAG, lag);
            for (int step = 1; step <= 30; step++) {
                x.order(step);
                C.due("LAG " + lag + " WHEEL behind " + step, x.now(0), Math.max(0, step - lag));
            }
        }
    }

    /** "ORDERS of the three STEPS ahead": they are kept whatever LAG is while they come. */
    private static void ordersOfThreeStepsAhead() {
        for (int lag = 0; lag <= 3; lag++) {
            HuntingRudder x = trialFrom(0);
            x.order(-30);
            x.order(11);
            x.order(22);
            x.part(LAG, lag);
            x.order(30);
            C.due("LAG " + lag + " told later", x.now(0), new int[] {30, 22, 11, -30}[lag]);
        }
    }

    /** "if it is more than AIR without sign, RAM goes towards WHEEL by what it is more, 6 at most." */
    private static void ramByAir() {
        for (int air = 0; air <= 8; air++) {
            for (int wheel = -30; wheel <= 30; wheel++) {
                HuntingRudder x = trialFrom(0);
                x.part(AIR, air);
                x.order(wheel);
                int due = sign(wheel) * Math.max(0, Math.min(6, Math.abs(wheel) - air));
                C.due("AIR " + air + " WHEEL " + wheel, x.now(RAM_NOW), due);
            }
        }
    }

    /** The same from a RAM that is not 0, over to the other side. */
    private static void ramComesNear() {
        for (int air = 0; air <= 8; air++) {
            for (int wheel = -30; wheel <= 30; wheel++) {
                HuntingRudder x = trialFrom(0);
                orders(x, 2, 12);
                x.part(AIR, air);
                x.order(wheel);
                int d = wheel - 12;
                int due = 12 + sign(d) * Math.max(0, Math.min(6, Math.abs(d) - air));
                C.due("AIR " + air + " RAM 12, WHEEL " + wheel, x.now(RAM_NOW), due);
            }
        }
    }

    /** A trial with RAM so far from a RUDDER that stays 0, as VALVE lets it not go; 5 STEPS bring RAM anywhere. */
    private static HuntingRudder ramAt(int ram) {
        HuntingRudder x = trialFrom(0);
        x.part(VALVE, ram > 0 ? 1 : 2);
        orders(x, 5, ram);
        C.due("RAM is at " + ram, x.now(RAM_NOW), ram);
        C.due("RUDDER is still 0", x.now(RUDDER_NOW), 0);
        x.part(VALVE, 0);
        return x;
    }

    /** "if it is more than PIN without sign, RUDDER goes towards RAM by what it is more, RATE at most". */
    private static void rudderByPinAndRate() {
        for (int pin = 0; pin <= 8; pin++) {
            for (int rate = 1; rate <= 9; rate++) {
                for (int far : new int[] {0, pin - 1, pin, pin + 1, pin + rate - 1, pin + rate, pin + rate + 1, 30}) {
                    rudderGoes(pin, rate, far);
                    rudderGoes(pin, rate, -far);
                }
            }
        }
    }

    private static void rudderGoes(int pin, int rate, int ram) {
        HuntingRudder x = ramAt(ram);
        x.part(PIN, pin);
        x.part(RATE, rate);
        x.order(ram);
        int due = sign(ram) * Math.max(0, Math.min(rate, Math.abs(ram) - pin));
        C.due("PIN " + pin + " RATE " + rate + " RAM " + ram, x.now(RUDDER_NOW), due);
    }

    /** "not to more with VALVE 1, not to less with VALVE 2": by where it goes, not by the side it is on. */
    private static void rudderByValve() {
        for (int side = -1; side <= 1; side += 2) {
            for (int valve = 0; valve <= 2; valve++) {
                for (int order : new int[] {-30, 30}) {
                    HuntingRudder x = trialFrom(0);
                    orders(x, 4, side * 12);
                    C.due("RUDDER with RAM", x.now(RUDDER_NOW), side * 12);
                    x.part(VALVE, valve);
                    x.order(order);
                    boolean stays = valve == 1 && order > 0 || valve == 2 && order < 0;
                    C.due("VALVE " + valve + " from " + side * 12 + " to " + order, x.now(RUDDER_NOW),
                        side * 12 + (stays ? 0 : 4 * sign(order)));
                }
            }
        }
    }

    /** "RUDDER (-30 .. 30)": at the stops it stays there, with the least RATE and the greatest. */
    private static void rudderHasStops() {
        for (int order : new int[] {-30, 30}) {
            for (int rate : new int[] {1, 9}) {
                HuntingRudder x = C.with("row 1 " + order + ";");
                x.part(RATE, rate);
                int there = rate == 1 ? 30 : 5;
                C.due("RUDDER a STEP ahead of the stop", x.steer(0, 0, there - 1, 2) == order, false);
                C.due("RUDDER at the stop", x.steer(0, 0, there, 2), order);
                C.due("RUDDER stays at the stop", x.steer(0, 0, there + 1, 2), order);
                C.due("WHEEL at the stop", x.steer(0, 0, 1500, 0), order);
                C.due("RAM at the stop", x.steer(0, 0, 1500, 1), order);
                C.due("RUDDER stays there for good", x.steer(0, 0, 1500, 2), order);
            }
        }
    }

    /** "TURN grows by (RUDDER times SPEED by 10, less TURN) by INERTIA", "All quotients are cut towards 0", from TURN 0. */
    private static void turnFromZero() {
        for (int rudder = -9; rudder <= 9; rudder++) {
            for (int speed = 1; speed <= 20; speed++) {
                for (int inertia = 1; inertia <= 9; inertia++) {
                    HuntingRudder x = ramAt(rudder);
                    x.part(RATE, 9);
                    x.ship(SPEED, speed);
                    x.ship(INERTIA, inertia);
                    x.order(rudder);
                    C.due("RUDDER " + rudder, x.now(RUDDER_NOW), rudder);
                    C.due("SPEED " + speed + " INERTIA " + inertia + " RUDDER " + rudder, x.now(TURN_NOW), cut(cut(rudder * speed, 10), inertia));
                }
            }
        }
    }

    /** The same from every other TURN, the greatest (60) and least too. */
    private static void turnGrowsAndShrinks() {
        boolean most = false;
        boolean least = false;
        for (int inertia = 1; inertia <= 9; inertia++) {
            for (int speed : new int[] {1, 7, 19, 20}) {
                for (int order : new int[] {-30, 30}) {
                    HuntingRudder x = trialFrom(0);
                    x.ship(SPEED, speed);
                    x.ship(INERTIA, inertia);
                    for (int step = 1; step <= 80; step++) {
                        int ahead = x.now(TURN_NOW);
                        x.order(step <= 50 ? order : -order);
                        int due = ahead + cut(cut(x.now(RUDDER_NOW) * speed, 10) - ahead, inertia);
                        C.due("SPEED " + speed + " INERTIA " + inertia + " TURN behind " + step, x.now(TURN_NOW), due);
                        most |= due == 60;
                        least |= due == -60;
                    }
                }
            }
        }
        C.due("TURN was 60 and -60", most && least, true);
    }

    /** "OFF grows by TURN and WIND; beyond 1799 or below -1800 it goes round (3600)", by WIND alone. */
    private static void offGoesRoundByWind() {
        for (int wind = -9; wind <= 9; wind++) {
            for (int off : new int[] {-1800, -1799, -1792, -1791, -1790, -1, 0, 1, 1789, 1790, 1791, 1798, 1799}) {
                HuntingRudder x = trialFrom(off);
                x.ship(WIND, wind);
                C.due("OFF " + off + " WIND " + wind, x.order(0), round(off + wind));
            }
        }
        HuntingRudder x = trialFrom(1790);
        x.ship(WIND, 9);
        C.due("1799 is not beyond 1799", x.order(0), 1799);
        x.ship(WIND, 1);
        C.due("1800 is", x.order(0), -1800);
        x.ship(WIND, 0);
        C.due("-1800 is not below -1800", x.order(0), -1800);
        x.ship(WIND, -1);
        C.due("-1801 is", x.order(0), 1799);
    }

    /** The same by the greatest TURN and WIND, from every OFF. */
    private static void offGoesRoundByTurn() {
        for (int side = -1; side <= 1; side += 2) {
            HuntingRudder x = null;
            for (int off = -1800; off <= 1799; off++) {
                if ((off + 1800) % 400 == 0) {
                    x = C.with("wheel " + (side < 0 ? "0-30;" : "30;"));
                    x.part(RATE, 9);
                    x.ship(SPEED, 20);
                    x.ship(INERTIA, 1);
                    x.ship(WIND, 9 * side);
                }
                // TURN is 12, 24, 36, 48, 60 and 60 again behind six STEPS.
                C.due("from " + off + " to side " + side, x.led(off, 6, 4), round(off + side * (240 + 6 * 9)));
            }
        }
    }

    // ---- 3. HUNT, WORST, HOLDS ----

    /** A ship whose OFF goes on by 1 a STEP up to an OFF, and stays: the STATE is the same 3 STEPS later. */
    private static HuntingRudder upTo(int off) {
        HuntingRudder x = C.with("if off<" + off + " wheel 1;");
        x.ship(INERTIA, 1);
        return x;
    }

    /** "STATES behind STEPS 0, 1, .. till one comes again, 1500 at most .. LOST, if none comes again by 1500." */
    private static void huntFindsByStep1500() {
        HuntingRudder x = upTo(1496);
        int[] settles = {1, 1499, 1, 0};
        HuntingRudder y = upTo(1497);
        int[] lost = {3, -1, -1, 1497};
        for (int what = 0; what < 4; what++) {
            C.due("comes again behind STEP 1500: " + what, x.hunt(0, what), settles[what]);
            C.due("would come again behind STEP 1501: " + what, y.hunt(0, what), lost[what]);
        }
        C.due("from one on it is found", y.hunt(1, 1), 1499);
        HuntingRudder z = new HuntingRudder();
        z.ship(WIND, 3);
        C.due("a PERIOD of 1200", z.hunt(0, 2), 1200);
        z.ship(WIND, 2);
        C.due("a PERIOD of 1800 is LOST", z.hunt(-1800, 0), 3);
        C.due("SWING of all STEPS, that behind 0 and behind 1500 too", z.hunt(-1800, 3), 3000);
    }

    /** "FIRST is the STEP behind which that STATE was first, PERIOD how many STEPS later: SETTLES if that is 1, else HUNTS". */
    private static void huntSettlesOrHunts() {
        HuntingRudder x = upTo(5);
        int[] due = {1, 8, 1, 0};
        for (int what = 0; what < 4; what++) {
            C.due("settles behind 8: " + what, x.hunt(0, what), due[what]);
            C.due("settled at once: " + what, x.hunt(5, what), new int[] {1, 0, 1, 0}[what]);
        }
        // To and fro by 1: OFF 0, 1, 0, 1, .. as TURN is 1 and -1.
        HuntingRudder y = C.with("if off>0 wheel 0-1;wheel 1;");
        y.ship(INERTIA, 1);
        C.due("a PERIOD of 2 HUNTS", y.hunt(0, 0), 2);
        C.due("the PERIOD", y.hunt(0, 2), 2);
        C.due("its SWING", y.hunt(0, 3), 1);
        // Behind STEP 3 the ORDERS of the three STEPS are 1, -1, 1 for the first time, and behind STEP 5 again.
        C.due("FIRST, when the ORDERS ahead are of the PERIOD too", y.hunt(0, 1), 3);
    }

    /** HUNTS of up to 1500 STEPS with much movement, and what all STATES that led() tells make of them. */
    private static void huntsThatAreLong() {
        boolean longOne = false;
        String[] laws = {"wheel off/200;", "if off>900 wheel 4;if turn>3 wheel 0-5;wheel off/400;", "wheel off/60-turn;"};
        for (String law : laws) {
            for (int wind = 1; wind <= 5; wind++) {
                HuntingRudder x = C.with(law);
                x.ship(WIND, wind);
                int[] due = huntByLed(law, wind, -777);
                for (int what = 0; what < 4; what++) {
                    C.due(law + " WIND " + wind + " hunt " + what, x.hunt(-777, what), due[what]);
                }
                longOne |= due[1] + due[2] > 1024;
            }
        }
        C.due("one was long", longOne, true);
    }

    /** HUNTS of 1025 to 1500 STATES that are all different: FIRST is found among the earliest of them, too. */
    private static void huntsOfMoreThan1024States() {
        String[] laws = {"wheel off/393-turn;", "wheel 0-off/133+turn*3;", "wheel 0-off/145+turn*15;", "wheel off/320;",
            "if off>196 wheel 11;wheel off/246;", "wheel off/392;", "wheel off/155-turn;"};
        int[][] told = {{-6, 2, 0, 1561}, {4, 1, 3, 759}, {-5, 0, 0, 1001}, {9, 0, 0, 1452}, {8, 0, 0, -1582}, {9, 0, 1, 455}, {-7, 1, 0, 746}};
        for (int k = 0; k < laws.length; k++) {
            HuntingRudder x = C.with(laws[k]);
            PlainModel y = new PlainModel();
            y.feedText(laws[k]);
            C.due("the plain model's text", y.text(laws[k].length()) > 0, true);
            x.ship(WIND, told[k][0]);
            y.ship(WIND, told[k][0]);
            x.part(LAG, told[k][1]);
            y.part(LAG, told[k][1]);
            x.part(AIR, told[k][2]);
            y.part(AIR, told[k][2]);
            int off = told[k][3];
            C.due("so many STATES", y.hunt(off, 1) + y.hunt(off, 2) > 1024, true);
            for (int what = 0; what < 4; what++) {
                C.due(laws[k] + " hunt " + what, x.hunt(off, what), y.hunt(off, what));
            }
        }
    }

    private static int[] huntByLed(String law, int wind, int off) {
        java.util.Map<String, Integer> states = new java.util.HashMap<>();
        int[] offs = new int[1501];
        String orders = "0 0 0 ";
        HuntingRudder x = null;
        for (int n = 0; n <= 1500; n++) {
            if (n % 50 == 0) {
                x = C.with(law);
                x.ship(WIND, wind);
            }
            offs[n] = x.led(off, n, 4);
            if (n > 0) {
                orders = orders.substring(orders.indexOf(' ') + 1) + x.led(off, n, 5) + " ";
            }
            String state = orders;
            for (int what = 0; what < 5; what++) {
                state += x.led(off, n, what) + " ";
            }
            Integer first = states.putIfAbsent(state, n);
            if (first != null) {
                return new int[] {n - first == 1 ? 1 : 2, first, n - first, swing(offs, first, n)};
            }
        }
        return new int[] {3, -1, -1, swing(offs, 0, 1500)};
    }

    private static int swing(int[] offs, int from, int to) {
        java.util.stream.IntStream some = java.util.Arrays.stream(offs, from, to + 1);
        java.util.IntSummaryStatistics of = some.summaryStatistics();
        return of.getMax() - of.getMin();
    }

    /** A ship that is blown round comes to its first STATE again, wherever it started: FIRST is 0. */
    private static void huntFromEveryOff() {
        for (int wind = 3; wind <= 9; wind++) {
            HuntingRudder x = new HuntingRudder();
            x.ship(WIND, wind);
            for (int off = -1800; off <= 1799; off += 29) {
                C.due("FIRST by WIND " + wind + " from " + off, x.hunt(off, 1), wind == 7 ? -1 : 0);
                C.due("PERIOD by WIND " + wind + " from " + off, x.hunt(off, 2), wind == 7 ? -1 : 3600 / wind);
            }
        }
    }

    /** "A STATE: WHEEL, RAM, RUDDER, TURN, OFF, ORDERS of the three STEPS ahead": all must come again. */
    private static void huntOfWholeStates() {
        HuntingRudder x = C.with("if off=7 wheel 1;");
        x.part(AIR, 8);
        C.due("an ORDER of 1 within AIR moves nothing but WHEEL, for good", x.hunt(7, 1), 3);
        x.part(AIR, 0);
        x.part(PIN, 8);
        C.due("RAM goes, RUDDER does not", x.hunt(7, 1), 3);
        C.due("and OFF stays", x.hunt(7, 3), 0);
        C.due("from another OFF nothing goes", x.hunt(8, 1), 0);
        HuntingRudder y = C.with("if off=0 and turn=0 and wheel=0 wheel 1;");
        y.part(AIR, 8);
        C.due("OFF alone comes again at once, WHEEL by turns", y.hunt(0, 2), 2);
    }

    /** "SWING: the greatest OFF less the least of the PERIOD": not of the STEPS ahead of it. */
    private static void swingOfThePeriodAlone() {
        HuntingRudder x = C.with("if off>300 wheel 0-1;if off>299 wheel 1;if off<300 wheel 1;");
        x.ship(INERTIA, 1);
        C.due("HUNTS at 300", x.hunt(0, 0), 2);
        C.due("SWING from 0", x.hunt(0, 3), 1);
        C.due("SWING from 300", x.hunt(300, 3), 1);
        HuntingRudder y = new HuntingRudder();
        for (int wind = 3; wind <= 9; wind += wind == 6 ? 2 : 1) {
            y.ship(WIND, wind);
            C.due("round by WIND " + wind, y.hunt(17, 2), 3600 / wind);
            y.ship(WIND, -wind);
            C.due("round by WIND " + -wind, y.hunt(17, 2), 3600 / wind);
        }
        y.ship(WIND, 9);
        C.due("SWING from -1800 to 1791", y.hunt(0, 3), 3591);
        C.due("SWING from -1792 to 1799", y.hunt(8, 3), 3591);
    }

    /** "of OFF a, a and c, .. up to b". */
    private static void worstGoesUpToB() {
        HuntingRudder x = new HuntingRudder();
        C.due("b itself is asked", x.worst(1, 9, 4, 0, 0), 9);
        C.due("one below b is not gone beyond", x.worst(1, 8, 4, 0, 0), 5);
        C.due("a alone, as c leads beyond b", x.worst(1, 9, 9, 0, 0), 1);
        C.due("a is b", x.worst(9, 9, 1, 0, 0), 9);
        C.due("a is b, whatever c is", x.worst(9, 9, 3600, 0, 0), 9);
        C.due("c 3599 leads from the least OFF to the greatest", x.worst(-1800, 1799, 3599, 0, 1), -1800);
        C.due("c 3599 from one on leads beyond", x.worst(-1799, 1799, 3599, 0, 0), 1799);
        C.due("c 1 leads everywhere", x.worst(-3, 7, 1, 0, 1), 7);
        C.due("c 3600", x.worst(-1, 1799, 3600, 0, 0), 1);
    }

    /** "of several the first." */
    private static void worstOfSeveralTheFirst() {
        HuntingRudder x = new HuntingRudder();
        C.due("-5 and 5", x.worst(-5, 5, 10, 0, 1), -5);
        C.due("-5 and 6", x.worst(-5, 6, 11, 0, 1), 6);
        x.ship(WIND, 9);
        C.due("-9 and 0 are 9 off, 9 is 18 off", x.worst(-9, 9, 9, 1, 1), 9);
        C.due("-9 and 0 are 9 off", x.worst(-9, 0, 9, 1, 1), -9);
        // From 1782 on OFF goes round within two STEPS; from 1782 alone it is -1800 then.
        C.due("the first that comes to -1800", x.worst(1780, 1799, 1, 2, 1), 1782);
        C.due("its OFF without sign is 1800", x.worst(1780, 1799, 1, 2, 0), 1800);
    }

    /** "the greatest OFF without sign behind any of n STEPS (behind 0, too)". */
    private static void worstBehindAnyStep() {
        HuntingRudder x = new HuntingRudder();
        C.due("-1800 without sign", x.worst(-1800, -1800, 1, 0, 0), 1800);
        C.due("1799", x.worst(1799, 1799, 1, 0, 0), 1799);
        x.ship(WIND, 1);
        C.due("behind 0 alone", x.worst(0, 0, 1, 0, 0), 0);
        C.due("behind 1", x.worst(0, 0, 1, 1, 0), 1);
        C.due("behind 200", x.worst(0, 0, 1, 200, 0), 200);
        C.due("behind 0 it was farther than behind any other", x.worst(-200, -200, 1, 200, 0), 200);
        C.due("in the middle it is farthest", upTo(1).worst(-1, -1, 1, 9, 0), 1);
        // OFF comes to 1800 behind STEP 5 and no farther.
        C.due("a STEP ahead of going round", x.worst(1795, 1795, 1, 4, 0), 1799);
        C.due("gone round", x.worst(1795, 1795, 1, 5, 0), 1800);
    }

    /** "HOLDS: the least SPEED 1 .. 20 with which LED from OFF 0 no OFF behind n STEPS is above a bound". */
    private static void holdsWithTheLeastSpeed() {
        boolean one = false;
        boolean twenty = false;
        boolean none = false;
        for (int wind = 1; wind <= 9; wind++) {
            for (int bound = 0; bound <= 60; bound++) {
                HuntingRudder x = C.with("wheel 0-off;");
                x.part(RATE, 9);
                x.ship(WIND, wind);
                int due = -2;
                for (int speed = 20; speed >= 1; speed--) {
                    x.ship(SPEED, speed);
                    due = x.worst(0, 0, 1, 20, 0) <= bound ? speed : due;
                }
                x.ship(SPEED, 13);
                C.due("WIND " + wind + " bound " + bound, x.holds(bound, 20), due);
                C.due("SPEED itself stays", x.count(6), 13);
                one |= due == 1;
                twenty |= due == 20;
                none |= due == -2;
            }
        }
        C.due("SPEED 1 held once, SPEED 20 once, none once", one && twenty && none, true);
    }

    /** "no OFF behind n STEPS is above a bound without sign". */
    private static void holdsAtTheBound() {
        for (int wind = -1; wind <= 1; wind += 2) {
            HuntingRudder x = new HuntingRudder();
            x.ship(WIND, wind);
            C.due("at the bound behind 500", x.holds(500, 500), 1);
            C.due("above it behind 500", x.holds(499, 500), -2);
            C.due("not yet behind 499", x.holds(499, 499), 1);
            C.due("behind 1", x.holds(1, 1), 1);
            C.due("above 0 behind 1", x.holds(0, 1), -2);
            C.due("1800 is never gone beyond", x.holds(1800, 500), 1);
        }
        HuntingRudder x = new HuntingRudder();
        x.ship(WIND, 9);
        C.due("1800 off behind 200", x.holds(1799, 200), -2);
        C.due("1791 off behind 199", x.holds(1799, 199), 1);
        C.due("1791 off at the bound", x.holds(1791, 199), 1);
        C.due("1791 off above the bound", x.holds(1790, 199), -2);
        x.ship(WIND, 7);
        C.due("1799 off behind 257, -1794 behind 258", x.holds(1799, 500), 1);
        C.due("1799 off above the bound", x.holds(1798, 500), -2);
    }

    // ---- 4. the WAKE ----

    /** "OFF is D away at most behind each MARK's STEP". */
    private static void fitsByDistance() {
        for (int side = -1; side <= 1; side += 2) {
            for (int d : new int[] {0, 1, 50, 1000}) {
                HuntingRudder x = new HuntingRudder();
                x.mark(5, side * d);
                x.mark(200, 0);
                C.due("D away at most", x.fits(d, 0, 0), 0);
                if (d > 0) {
                    C.due("more than D away", x.fits(d - 1, 0, 0), -2);
                }
            }
        }
        HuntingRudder x = upTo(1000);
        x.mark(1, 1);
        x.mark(199, 199);
        C.due("behind STEPS 1 and 199", x.fits(0, 0, 0), 0);
        x.mark(200, 199);
        C.due("behind STEP 200 too", x.fits(0, 0, 0) == 0, false);
        C.due("1 away", x.fits(1, 0, 0), 0);
        x.wipe();
        x.mark(1, 2);
        x.mark(200, 200);
        C.due("behind the first MARK's STEP too", x.fits(0, 0, 0) == 0, false);
    }

    /** "(without going round)". */
    private static void fitsWithoutGoingRound() {
        HuntingRudder x = new HuntingRudder();
        x.mark(1, -1800);
        C.due("1799 and -1800 are 3599 away", x.fits(3599, 1799, 0), 0);
        C.due("and not less", x.fits(3598, 1799, 0), -2);
        C.due("not 1", x.fits(1, 1799, 0), -2);
        x.wipe();
        x.mark(1, 1799);
        C.due("-1800 and 1799 likewise", x.fits(3599, -1800, 0), 0);
        C.due("and not less likewise", x.fits(3598, -1800, 0), -2);
    }

    /** "FEWEST: 0, 1, 2 PARTS that FAIL, with which something fits." */
    private static void fewest() {
        HuntingRudder x = C.with("wheel 12;");
        C.due("0 without MARKS", x.fits(0, 0, 0), 0);
        C.due("one SUSPECT without PARTS", x.fits(0, 0, 1), 1);
        x.mark(9, 0);
        C.due("1: VALVE 1 keeps OFF", x.fits(0, 0, 0), 1);
        C.due("VALVE 1 alone", x.fits(0, 0, 3), 1 << VALVE);
        x.wipe();
        x.part(VALVE, 1);
        x.mark(1, 1);
        C.due("VALVE, as it is now, must fail for OFF to go", x.fits(0, 0, 3), 1 << VALVE);
        HuntingRudder y = C.with("wheel 12;");
        y.part(LAG, 1);
        y.part(VALVE, 1);
        y.mark(1, 1);
        C.due("2: LAG and VALVE", y.fits(0, 0, 0), 2);
        C.due("both in all", y.fits(0, 0, 3), 1 << LAG | 1 << VALVE);
        // RAM is 4 then, and so is RUDDER without PIN; TURN is 1 by RUDDER 3 and more.
        y.part(AIR, 8);
        C.due("AIR 8 alone does no harm", y.fits(0, 0, 0), 2);
        y.part(PIN, 2);
        C.due("three would be needed: none of at most two fit", y.fits(0, 0, 0), -2);
        C.due("no SUSPECTS", y.fits(0, 0, 1), 0);
        C.due("no PARTS in some", y.fits(0, 0, 2), 0);
    }

    /** "none of them with the value that it has .. of two the lesser number first: by the first PART, then the second, then the values". */
    private static void suspectsInOrder() {
        HuntingRudder x = C.with("wheel 12;");
        x.part(LAG, 1);
        x.part(VALVE, 1);
        x.mark(1, 1);
        int[][] due = {{3, 0, 4, 0}, {3, 0, 4, 2}, {-1, -1, -1, -1}};
        for (int k = 0; k < due.length; k++) {
            for (int what = 0; what < 4; what++) {
                C.due("SUSPECT " + k + " what " + what, x.suspect(0, 0, k, what), due[k][what]);
            }
        }
        C.due("how many", x.fits(0, 0, 1), 2);
        // WHEEL 9 with AIR and PIN 4 gives RAM 5, RUDDER 1 and TURN 0; TURN is 1 by RUDDER 3 and more.
        HuntingRudder y = C.with("wheel 9;");
        y.part(AIR, 4);
        y.part(PIN, 4);
        y.mark(1, 1);
        int n = y.fits(0, 0, 1);
        int ahead = -1;
        for (int k = 0; k < n; k++) {
            int place = y.suspect(0, 0, k, 0) * 10 + y.suspect(0, 0, k, 1);
            C.due("by PART, then by value", place > ahead, true);
            C.due("not the value that it has", place != 4 && place != 14, true);
            C.due("no second one", y.suspect(0, 0, k, 2), -1);
            ahead = place;
        }
        // By RAM 5 PIN 0, 1, 2 give RUDDER 3 or more; another AIR gives RAM 6 at most and RUDDER 2.
        C.due("PIN 0, 1, 2", n, 3);
        C.due("the last of them", ahead, 12);
    }

    private static final int[] PART_LEAST = {0, 0, 1, 0, 0};
    private static final int[] PART_MOST = {8, 8, 9, 3, 2};
    private static final int[] PART_BETWEEN = {4, 4, 5, 1, 1};

    /** Two PARTS that FAIL with the least or the greatest value that they can have are found. */
    private static void pairsWithTheLeastAndGreatestValues() {
        boolean[] firsts = new boolean[10];
        boolean[] seconds = new boolean[10];
        for (int p = 0; p < 5; p++) {
            for (int q = p + 1; q < 5; q++) {
                for (int ends = 0; ends < 8; ends++) {
                    int v = (ends & 1) == 0 ? PART_LEAST[p] : PART_MOST[p];
                    int w = (ends & 2) == 0 ? PART_LEAST[q] : PART_MOST[q];
                    if (twoAreFound(ends < 4 ? 60 : -60, new int[] {p, v, q, w})) {
                        firsts[p * 2 + (ends & 1)] = true;
                        seconds[q * 2 + (ends >> 1 & 1)] = true;
                    }
                }
            }
        }
        for (int part = 0; part < 4; part++) {
            C.due("a first PART's ends: " + part, firsts[part * 2] && firsts[part * 2 + 1], true);
            C.due("a second PART's ends: " + (part + 1), seconds[part * 2 + 2] && seconds[part * 2 + 3], true);
        }
    }

    /** Whether the WAKE of two PARTS that failed wants both; they are among its SUSPECTS then. */
    private static boolean twoAreFound(int off, int[] failed) {
        HuntingRudder x = C.with("if off>0 wheel 0-25;if off<0-40 wheel 29;wheel 0-off/2-turn;");
        for (int part = 0; part < 5; part++) {
            x.part(part, PART_BETWEEN[part]);
        }
        x.part(failed[0], failed[1]);
        x.part(failed[2], failed[3]);
        int[] offs = new int[13];
        for (int k = 1; k <= 12; k++) {
            offs[k] = x.led(off, 7 * k, 4);
        }
        x.part(failed[0], PART_BETWEEN[failed[0]]);
        x.part(failed[2], PART_BETWEEN[failed[2]]);
        for (int k = 1; k <= 12; k++) {
            x.mark(7 * k, offs[k]);
        }
        if (x.fits(0, off, 0) != 2) {
            return false;
        }
        C.due("PARTS " + failed[0] + " and " + failed[2], hasSuspect(x, off, failed), true);
        return true;
    }

    private static boolean hasSuspect(HuntingRudder x, int off, int[] due) {
        for (int k = 0; k < x.fits(0, off, 1); k++) {
            boolean is = true;
            for (int what = 0; what < 4; what++) {
                is &= x.suspect(0, off, k, what) == due[what];
            }
            if (is) {
                return true;
            }
        }
        return false;
    }

    /** "PARTS that FAIL in some of them, in all of them (bits)": each PART alone in all. */
    private static void inAllOfThem() {
        // What is, by which alone it can be otherwise, and what is seen behind the first STEP of WHEEL 9 or 30.
        int[][] cases = {{AIR, 8, 9, 1}, {PIN, 8, 9, 1}, {RATE, 1, 30, 1}, {LAG, 1, 9, 1}, {VALVE, 1, 9, 1}};
        for (int[] one : cases) {
            HuntingRudder x = C.with("wheel " + one[2] + ";");
            x.part(one[0], one[1]);
            x.mark(1, one[3]);
            C.due("one PART must fail: " + one[0], x.fits(0, 0, 0), 1);
            C.due("in some", x.fits(0, 0, 2), 1 << one[0]);
            C.due("in all", x.fits(0, 0, 3), 1 << one[0]);
        }
    }

    /** "SUSPECTS are in one group if OFF behind all of these STEPS is the same". */
    private static void groupsByAllSteps() {
        // SUSPECTS PIN 0, 1, 2. By WHEEL 4 with AIR 4 RAM stays; by 30 RUDDER is 4, 4, 4 first, as RATE is 4.
        HuntingRudder x = C.with("wheel 9;row 1 4;");
        x.part(AIR, 4);
        x.part(PIN, 4);
        x.mark(1, 1);
        C.due("OFF is the same behind all of 200", x.parts(0, 0, 200, 1), 3);
        HuntingRudder y = C.with("wheel 9;row 3 30 0;");
        y.part(AIR, 4);
        y.part(PIN, 4);
        y.mark(1, 1);
        C.due("the same behind the first STEP", y.parts(0, 0, 1, 1), 3);
        C.due("each for itself behind many", y.parts(0, 0, 40, 1), 1);
        int[] parted = new int[41];
        for (int n = 1; n <= 40; n++) {
            parted[n] = y.parts(0, 0, n, 1);
            C.due("a group never grows again", n == 1 || parted[n] <= parted[n - 1], true);
            C.due("the group behind " + n + " by steer()", parted[n], greatestGroup(n));
        }
    }

    /** The same for twelve SUSPECTS of all PARTS, by ROWS that part some of them early, some late, some never. */
    private static void groupsOfManySuspects() {
        int[][] suspects = {{0, 8}, {1, 4}, {1, 5}, {1, 6}, {1, 7}, {1, 8}, {2, 1}, {2, 2}, {3, 1}, {3, 2}, {3, 3}, {4, 1}};
        String[] rows = {"row 1 0", "row 1 30", "row 1 -30", "row 2 9 -9", "row 3 5 -20 3", "row 9 1 2 3 4 5 6", "row 1 8 0", "row 4 -7 7 -3"};
        boolean[] sizes = new boolean[13];
        for (String row : rows) {
            String[] offs = new String[12];
            HuntingRudder[] failed = new HuntingRudder[12];
            for (int k = 0; k < 12; k++) {
                failed[k] = C.with(row + ";");
                failed[k].part(suspects[k][0], suspects[k][1]);
                offs[k] = "";
            }
            HuntingRudder x = C.with("wheel 10;" + row + ";");
            x.mark(1, 0);
            C.due("twelve SUSPECTS", x.fits(0, 0, 1), 12);
            for (int n = 1; n <= 60; n++) {
                for (int k = 0; k < 12; k++) {
                    offs[k] += failed[k].steer(0, 0, n, 4) + " ";
                }
                int due = greatest(offs);
                C.due("the greatest group by " + row + " behind " + n, x.parts(0, 0, n, 1), due);
                sizes[due] = true;
            }
        }
        C.due("groups of several sizes", sizes[12] && (sizes[1] || sizes[2]) && (sizes[4] || sizes[5] || sizes[6]), true);
    }

    /** The greatest group of PIN 0, 1, 2 by the OFFS that steer() tells. */
    private static int greatestGroup(int n) {
        String[] offs = {"", "", ""};
        for (int pin = 0; pin <= 2; pin++) {
            HuntingRudder x = C.with("row 3 30 0;");
            x.part(AIR, 4);
            x.part(PIN, pin);
            for (int step = 1; step <= n; step++) {
                offs[pin] += x.steer(0, 0, step, 4) + " ";
            }
        }
        return greatest(offs);
    }

    private static int greatest(String[] offs) {
        int greatest = 0;
        for (String one : offs) {
            int same = 0;
            for (String other : offs) {
                same += one.equals(other) ? 1 : 0;
            }
            greatest = Math.max(greatest, same);
        }
        return greatest;
    }

    /** "the ROW of which the greatest group is least, of several the first"; "(behind its end its last ORDER stays)". */
    private static void rowOfTheLeastGreatestGroup() {
        String[] texts = {"row 1 0;row 1 0;", "row 1 0;row 9 30 0;row 9 30 0;", "row 9 30 0;row 1 0;", "row 1 0;row 1 4;row 1 5;row 1 -4;row 1 -4;row 9 30 0;"};
        int[] rows = {0, 1, 0, 5};
        int[] groups = {3, 1, 1, 1};
        for (int k = 0; k < texts.length; k++) {
            HuntingRudder x = C.with("wheel 9;" + texts[k]);
            x.part(AIR, 4);
            x.part(PIN, 4);
            x.mark(1, 1);
            C.due("the ROW of " + texts[k], x.parts(0, 0, 90, 0), rows[k]);
            C.due("the group of " + texts[k], x.parts(0, 0, 90, 1), groups[k]);
        }
        // By WHEEL 7 RAM comes to 3, by which PIN 0 alone gives TURN.
        HuntingRudder y = C.with("wheel 9;row 1 0 7;");
        y.part(AIR, 4);
        y.part(PIN, 4);
        y.mark(1, 1);
        C.due("its last ORDER stays", y.steer(0, 0, 1500, 5), 7);
        C.due("PIN 0 alone, with RUDDER 3, is parted", y.parts(0, 0, 200, 1), 2);
    }

    // ---- 5. the DRILL ----

    /** "(a W in B may come later)": each B is that of its own LINE, in whatever order the LINES come. */
    private static void eachConditionForItself() {
        String[] lines = {"gear a if not b or c;", "gear b if a and not c;", "gear c if c;", "safe a or not b or c;"};
        for (int order = 0; order < 256; order++) {
            int[] at = {order & 3, order >> 2 & 3, order >> 4 & 3, order >> 6};
            if ((1 << at[0] | 1 << at[1] | 1 << at[2] | 1 << at[3]) == 15) {
                HuntingRudder x = C.with(lines[at[0]] + lines[at[1]] + lines[at[2]] + lines[at[3]]);
                int a = 1 << x.named(1 << 25);
                int b = 1 << x.named(2 << 25);
                int c = 1 << x.named(3 << 25);
                for (int gears = 0; gears < 8; gears++) {
                    boolean hasA = (gears & a) != 0;
                    boolean hasB = (gears & b) != 0;
                    boolean hasC = (gears & c) != 0;
                    C.due("safe(" + gears + ") in order " + order, x.safe(gears), hasA || !hasB || hasC ? 1 : 0);
                    C.due("a of " + gears, x.drill(gears, gears ^ a, 0) == 1, (!hasB || hasC) && x.safe(gears ^ a) == 1);
                    C.due("b of " + gears, x.drill(gears, gears ^ b, 0) == 1, hasA && !hasC && x.safe(gears ^ b) == 1);
                    C.due("c of " + gears, x.drill(gears, gears ^ c, 0) == 1, hasC && x.safe(gears ^ c) == 1);
                }
            }
        }
    }

    /** "if its B holds (by GEARS ahead of that; without one it may), and safe's B holds behind it (without safe always)". */
    private static void drillByGearsAhead() {
        HuntingRudder x = C.with("gear a if a;");
        C.due("a is not on ahead: it can't go on", x.drill(0, 1, 0), -2);
        C.due("a is on ahead: it can go off", x.drill(1, 0, 0), 1);
        HuntingRudder y = C.with("gear a if not a;");
        C.due("on", y.drill(0, 1, 0), 1);
        C.due("not off again", y.drill(1, 0, 0), -2);
        HuntingRudder z = C.with("gear a;gear b;safe a;");
        C.due("safe is not asked at the start", z.drill(0, 1, 0), 1);
        C.due("but behind the last change", z.drill(1, 0, 0), -2);
        C.due("and behind those between", z.drill(0, 3, 1), 0);
        C.due("nor asked without a change", z.drill(2, 2, 0), 0);
        HuntingRudder none = C.with("safe not (b and not b);gear b;");
        C.due("a safe that always holds", none.drill(0, 1, 0), 1);
        HuntingRudder never = C.with("gear b;safe b and not b;");
        C.due("a safe that never holds", never.drill(0, 1, 0), -2);
        C.due("no change is needed", never.drill(1, 1, 0), 0);
    }

    /** "the fewest; of several the first by GEARS." */
    private static void drillTheFirstByGears() {
        HuntingRudder x = C.with("gear a;gear b;gear c;gear d;gear e;gear f;");
        for (int what = 1; what <= 6; what++) {
            C.due("all on, from GEAR 0 on: " + what, x.drill(0, 63, what), what - 1);
            C.due("all off, from GEAR 0 on: " + what, x.drill(63, 0, what), what - 1);
        }
        C.due("six of them", x.drill(0, 63, 0), 6);
        C.due("no seventh", x.drill(0, 63, 7), -1);
        // From 0 to 6 by b and c: b is first but can't be, as b without c isn't safe.
        HuntingRudder y = C.with("gear a;gear b;gear c;safe not b or c;");
        C.due("two", y.drill(0, 6, 0), 2);
        C.due("c first", y.drill(0, 6, 1), 2);
        C.due("b then", y.drill(0, 6, 2), 1);
        // b wants a, which must go off again: three are the fewest, a twice.
        HuntingRudder z = C.with("gear a;gear b if a;gear c;");
        int[] due = {3, 0, 1, 0, -1};
        for (int what = 0; what < due.length; what++) {
            C.due("a, b, a: " + what, z.drill(0, 2, what), due[what]);
        }
        // c may stand anywhere among a, b, a: the first by GEARS has it last.
        int[] four = {4, 0, 1, 0, 2, -1};
        for (int what = 0; what < four.length; what++) {
            C.due("a, b, a, c: " + what, z.drill(0, 6, what), four[what]);
        }
    }
}
