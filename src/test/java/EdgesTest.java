/**
 * The boundary cases that promises 1 to 25 name, promise by promise: the least and the greatest value
 * that is taken, the empty and the full case. What is refused, with the first value beyond either end,
 * is asked by RefusedTest; the sentences of the Terms by TermsEdgesTest and LanguageEdgesTest.
 */
public final class EdgesTest {
    private static final int MIN = Integer.MIN_VALUE;
    private static final int MAX = Integer.MAX_VALUE;
    private static final int BLANKS = 0x20202020;
    private static final int[] PART_LEAST = {0, 0, 1, 0, 0};
    private static final int[] PART_MOST = {8, 8, 9, 3, 2};
    private static final int[] PART_FIRST = {0, 0, 4, 0, 0};
    private static final int[] SHIP_LEAST = {1, 1, -9};
    private static final int[] SHIP_MOST = {20, 9, 9};
    private static final int[] SHIP_FIRST = {10, 3, 0};
    private static final Checks C = new Checks();

    public static void main(String[] args) {
        newObject();
        newObjectIsEmpty();
        feedUpTo600();
        feedHighestFirst();
        textOfFirstBytes();
        textLeavesAnEmptyTape();
        textReplacesTheOneAhead();
        textBehindText();
        textBehindOpenOnes();
        faultOfTheLatestText();
        faultPlaces();
        parts();
        ships();
        rows();
        rowExceptions();
        led();
        steer();
        steerBehindItsEnd();
        hunt();
        worst();
        holds();
        marks();
        marksAreFull();
        wipe();
        fits();
        fitsAnew();
        suspect();
        partsOfTwoSuspects();
        named();
        safe();
        drillOfNoGears();
        drillOfSixGears();
        begin();
        orders();
        hundredOrders();
        back();
        backTellsTheStateAhead();
        backTellsTheOrdersAhead();
        now();
        count();
        C.end("EdgesTest");
    }

    // ---- promises 1 to 4 ----

    /** "PARTS and SHIP as at first". */
    private static void newObject() {
        HuntingRudder x = new HuntingRudder();
        for (int part = 0; part < 5; part++) {
            C.due("PART " + part, x.count(9 + part), PART_FIRST[part]);
        }
        for (int what = 0; what < 3; what++) {
            C.due("SHIP " + what, x.count(6 + what), SHIP_FIRST[what]);
        }
        C.due("NONE", HuntingRudder.NONE, -1);
    }

    /** "No TEXT, MARKS; .. an empty TAPE": what each call answers then. */
    private static void newObjectIsEmpty() {
        HuntingRudder x = new HuntingRudder();
        for (int what = 0; what < 6; what++) {
            C.due("count(" + what + ")", x.count(what), 0);
            C.due("led behind 1500, " + what, x.led(1799, 1500, what), what == 4 ? 1799 : 0);
        }
        C.due("text(1)", x.text(1), -2);
        C.due("fault(0)", x.fault(0), 0);
        C.due("fault(1)", x.fault(1), -1);
        C.due("row(0, 0)", Checks.row(x, 0, 0), 1_000_001);
        C.due("steer", x.steer(0, 0, 0, 4), MIN);
        C.due("hunt", x.hunt(-1800, 0), 1);
        C.due("worst", x.worst(-3, 2, 1, 200, 0), 3);
        C.due("holds", x.holds(0, 500), 1);
        C.due("fits", x.fits(0, 0, 0), 0);
        C.due("one SUSPECT", x.fits(0, 0, 1), 1);
        C.due("of no PARTS", x.suspect(0, 0, 0, 0), -1);
        C.due("parts", x.parts(0, 0, 1, 0), -1);
        C.due("named", x.named(1 << 25), -1);
        C.due("safe(0)", x.safe(0), 1);
        C.due("safe(1)", x.safe(1), -1);
        C.due("wipe()", x.wipe(), 0);
        C.due("order(0)", x.order(0), MIN);
        C.due("back()", x.back(), -1);
        C.due("now(5)", x.now(5), MIN);
        C.due("text(0)", x.text(0), 0);
    }

    /** "how many it has; NONE, and none come, if it would have more than 600." */
    private static void feedUpTo600() {
        HuntingRudder x = new HuntingRudder();
        for (int held = 20; held <= 600; held += 20) {
            C.due("feed to " + held, x.feed(BLANKS, BLANKS, BLANKS, BLANKS, BLANKS), held);
        }
        for (int again = 0; again < 3; again++) {
            C.due("feed to 620", x.feed(0, 0, 0, 0, 0), -1);
        }
        C.due("all 600 are blanks still", x.text(600), 0);
        C.due("an empty TAPE takes 20", x.feed(0, 0, 0, 0, 0), 20);
    }

    /** "Twenty bytes come behind the TAPE, four of each number, the highest first": a byte that is no TOKEN at each place. */
    private static void feedHighestFirst() {
        for (int place = 0; place < 600; place++) {
            for (int strange : new int[] {0x80, '#'}) {
                HuntingRudder x = new HuntingRudder();
                for (int at = 0; at < 600; at += 20) {
                    int[] five = {BLANKS, BLANKS, BLANKS, BLANKS, BLANKS};
                    if (place >= at && place < at + 20) {
                        int shift = 24 - 8 * (place % 4);
                        five[(place - at) / 4] = BLANKS & ~(255 << shift) | strange << shift;
                    }
                    x.feed(five[0], five[1], five[2], five[3], five[4]);
                }
                C.due("a FAULT", x.text(600), -1);
                C.due("byte " + place, x.fault(1), place);
            }
        }
        HuntingRudder x = new HuntingRudder();
        C.due("numbers below 0 and of all bits", x.feed(-1, MIN, MAX, 0, -1), 20);
        C.due("255 is no TOKEN", x.text(20) == -1 && x.fault(0) == 1 && x.fault(1) == 0, true);
    }

    /** "The TAPE's first n bytes are the TEXT: how many LINES". */
    private static void textOfFirstBytes() {
        String six = "gear a;row 1 1;wheel 1;";
        int[] lines = new int[24];
        for (int n = 0; n <= 23; n++) {
            lines[n] = n == 0 ? 0 : n == 7 ? 1 : n == 15 ? 2 : n == 23 ? 3 : -1;
        }
        for (int n = 0; n <= 23; n++) {
            HuntingRudder x = new HuntingRudder();
            Checks.feed(x, six);
            C.due("text(" + n + ")", x.text(n), lines[n]);
            C.due("the place is the length at most", x.fault(1) <= n, true);
        }
        HuntingRudder full = new HuntingRudder();
        Checks.feed(full, " ".repeat(592) + "wheel 3;");
        C.due("text(600)", full.text(600), 1);
        C.due("its ORDER", full.led(0, 1, 5), 3);
        HuntingRudder less = new HuntingRudder();
        Checks.feed(less, " ".repeat(592) + "wheel 3;");
        C.due("text(599)", less.text(599), -1);
        C.due("more must come at 599", less.fault(1), 599);
    }

    /** "(it is empty then)": behind a TEXT, behind a FAULT and behind text(0). */
    private static void textLeavesAnEmptyTape() {
        for (int n : new int[] {0, 8, 5}) {
            HuntingRudder x = new HuntingRudder();
            Checks.feed(x, "wheel 1;wheel 2;" + " ".repeat(24));
            C.due("text(" + n + ")", x.text(n), new int[] {0, -1, 1}[n == 0 ? 0 : n == 5 ? 1 : 2]);
            C.due("nothing is left", x.text(1), -2);
            C.due("20 come first", x.feed(0x77686565, 0x6c20373b, BLANKS, BLANKS, BLANKS), 20);
            C.due("and are the TEXT", x.text(20), 1);
            C.due("wheel 7;", x.led(0, 1, 5), 7);
        }
    }

    /** A TEXT without LINES is one too: nothing of the one ahead is left. */
    private static void textReplacesTheOneAhead() {
        HuntingRudder x = C.with("wheel 9;gear a;gear b if a;safe a;row 2 3;");
        x.mark(9, 0);
        C.due("SUSPECTS by the TEXT ahead", x.fits(0, 0, 0), 1);
        C.due("text(0)", x.text(0), 0);
        for (int what = 0; what < 5; what++) {
            C.due("count(" + what + ")", x.count(what), 0);
        }
        C.due("no ORDER", x.led(0, 9, 4), 0);
        C.due("no ROW", Checks.row(x, 0, 0), 1_000_001);
        C.due("no GEAR", x.named(1 << 25), -1);
        C.due("no safe", x.safe(0), 1);
        C.due("no bits", x.safe(1), -1);
        C.due("MARKS stay", x.count(5), 1);
        C.due("and fit by the new TEXT", x.fits(0, 0, 0), 0);
        C.due("GEARS without the B and safe ahead", Checks.read(x, "gear b;gear a;"), 2);
        C.due("safe without safe", x.safe(0), 1);
        C.due("a DRILL without B", x.drill(0, 3, 0), 2);
    }

    private static final String[] TEXTS = {
        "", "wheel 5;", "if 0 wheel 3;", "wheel 1" + "+1".repeat(31) + ";wheel 1;", "if off<50 wheel 0-off/3-turn;wheel 0-ram;if 1 wheel 2;",
        "gear a if " + "not ".repeat(62) + "a;gear b if a;", "gear c;gear b if c or d;gear a;gear d if not a;safe not (a and b) or c;",
        "gear a;gear b;gear c;gear d;gear e;gear f;safe a or f;", "gear a if b;gear b if not a;",
        "row 1 1 2 3 4 5 6 7 8 9 10 11 12;row 9 -30;row 2 30 -30;", "row 3 7;row 1 1;row 1 2;row 1 3;row 1 4;row 1 5 6;",
        "wheel 9;gear a;safe a;row 1 1;;", "wheel ((((((((1+2*(", "gear b if not (not (a and", "gear z;safe a;row 4 4 4;", "if 1<2 or 10000"};

    /** "are the TEXT": whatever was read ahead of it, with a FAULT or without, nothing of that is left. */
    private static void textBehindText() {
        for (String first : TEXTS) {
            for (String second : TEXTS) {
                for (String third : TEXTS) {
                    HuntingRudder x = new HuntingRudder();
                    String good = "";
                    for (String text : new String[] {first, second, third}) {
                        good = Checks.read(x, text) >= 0 ? text : good;
                    }
                    java.util.List<Long> seen = Seen.text(x);
                    boolean same = seen != null && seen.equals(Seen.text(C.with(good)));
                    C.due("the TEXT behind " + first + " and " + second + " and " + third, same, true);
                }
            }
        }
    }

    /** A '(' or a sign that was open at a FAULT is not open in the next TEXT. */
    private static void textBehindOpenOnes() {
        String[] open = {"wheel ((((((((", "wheel 1<2+3*", "wheel not not not", "safe (((a or not (", "if 1 or 2 and (1+2*3#"};
        for (String bad : open) {
            HuntingRudder x = new HuntingRudder();
            C.due("a FAULT: " + bad, Checks.read(x, bad), -1);
            C.due("eight are open at most", Checks.read(x, "wheel ((((((((7))))))));"), 1);
            C.due("7", x.led(0, 1, 5), 7);
            C.due("a FAULT again", Checks.read(x, bad), -1);
            C.due("none is open to be closed", Checks.read(x, "wheel 1);"), -1);
            C.due("at the ')'", x.fault(1), 7);
            C.due("a FAULT once more", Checks.read(x, bad), -1);
            C.due("64 KNOTS are left", Checks.read(x, "wheel 1" + "+1".repeat(31) + ";wheel 2;"), 2);
            C.due("they are worth 32", x.led(0, 1, 5), 30);
            C.due("64", x.count(3), 64);
        }
    }

    /** "Of the latest text() that was not -2, what 0: its FAULT (0), 1: its place (NONE without)." */
    private static void faultOfTheLatestText() {
        String[] texts = {"#", "wheel 10000;", "gear a;gear a;", "safe a;"};
        int[] places = {0, 6, 12, 5};
        for (int k = 0; k < 4; k++) {
            HuntingRudder x = new HuntingRudder();
            Checks.read(x, texts[k]);
            for (int n : new int[] {MAX, 1, -1}) {
                C.due("FAULT " + (k + 1), x.fault(0), k + 1);
                C.due("its place", x.fault(1), places[k]);
                C.due("-2 tells no FAULT", x.text(n), -2);
            }
            C.due("FAULT " + (k + 1) + " still", x.fault(0), k + 1);
            C.due("at its place still", x.fault(1), places[k]);
            C.due("a TEXT without", x.text(0), 0);
            C.due("FAULT 0", x.fault(0), 0);
            C.due("no place", x.fault(1), -1);
            C.due("-2 behind it", x.text(1), -2);
            C.due("FAULT 0 still", x.fault(0), 0);
        }
    }

    /** The least place and the greatest: the length of a full TAPE. */
    private static void faultPlaces() {
        HuntingRudder x = new HuntingRudder();
        Checks.feed(x, "wheel 1" + " ".repeat(593));
        C.due("more must come", x.text(600), -1);
        C.due("FAULT 1", x.fault(0), 1);
        C.due("at 600", x.fault(1), 600);
        Checks.feed(x, "#" + " ".repeat(599));
        C.due("no TOKEN", x.text(600), -1);
        C.due("at 0", x.fault(1), 0);
        Checks.feed(x, " ".repeat(599) + "#");
        C.due("no TOKEN at last", x.text(600), -1);
        C.due("at 599", x.fault(1), 599);
        Checks.feed(x, "z".repeat(600));
        C.due("one word of 600 letters", x.text(600), -1);
        C.due("at its first", x.fault(1), 0);
        Checks.feed(x, "wheel " + "1".repeat(594));
        C.due("one number of 594 digits", x.text(600), -1);
        C.due("FAULT 2", x.fault(0), 2);
        C.due("at its first digit", x.fault(1), 6);
    }

    // ---- promises 5 to 7 ----

    /** "A PART is so: true": each value of each, and no other PART is touched. */
    private static void parts() {
        for (int part = 0; part < 5; part++) {
            for (int value = PART_LEAST[part]; value <= PART_MOST[part]; value++) {
                HuntingRudder x = new HuntingRudder();
                C.due("part(" + part + ", " + value + ")", x.part(part, value), true);
                C.due("once more", x.part(part, value), true);
                for (int other = 0; other < 5; other++) {
                    C.due("PART " + other, x.count(9 + other), other == part ? value : PART_FIRST[other]);
                }
            }
        }
    }

    /** "SHIP, what 0 SPEED, 1 INERTIA, 2 WIND: true": each value of each, and nothing else is touched. */
    private static void ships() {
        for (int what = 0; what < 3; what++) {
            for (int value = SHIP_LEAST[what]; value <= SHIP_MOST[what]; value++) {
                HuntingRudder x = new HuntingRudder();
                C.due("ship(" + what + ", " + value + ")", x.ship(what, value), true);
                for (int other = 0; other < 3; other++) {
                    C.due("SHIP " + other, x.count(6 + other), other == what ? value : SHIP_FIRST[other]);
                }
            }
        }
    }

    /** "what 0: STEPS of each ORDER, 1: how many ORDERS, 2 and on: ORDER what less 2", of all six ROWS. */
    private static void rows() {
        HuntingRudder x = C.with("row 1 -30;row 9 30;row 5 0;row 2 1 -2;row 3 -30 0 30;row 4 1 2 3 4 5 6 7 8 9 10 11 -12;");
        int[][] due = {{1, 1, -30}, {9, 1, 30}, {5, 1, 0}, {2, 2, 1, -2}, {3, 3, -30, 0, 30}, {4, 12, 1, 2, 3, 4, 5, 6, 7, 8, 9, 10, 11, -12}};
        for (int row = 0; row < due.length; row++) {
            for (int what = 0; what < due[row].length; what++) {
                C.due("row(" + row + ", " + what + ")", Checks.row(x, row, what), due[row][what]);
            }
        }
    }

    /** "IndexOutOfBoundsException: no such ROW. NoSuchElementException: no such what", at the ends of all six ROWS. */
    private static void rowExceptions() {
        String text = "";
        for (int rows = 0; rows <= 6; rows++) {
            HuntingRudder x = C.with(text);
            for (int row : new int[] {MIN, -1, rows, rows + 1, MAX}) {
                for (int what : new int[] {MIN, -1, 0, 1, 2, MAX}) {
                    C.due("no ROW " + row + " of " + rows + ", " + what, Checks.row(x, row, what), 1_000_001);
                }
            }
            for (int row = 0; row < rows; row++) {
                // ROW r has r + 1 ORDERS.
                for (int what : new int[] {MIN, -1, row + 3, row + 4, MAX}) {
                    C.due("no what " + what + " of ROW " + row, Checks.row(x, row, what), 1_000_002);
                }
                C.due("the last what of ROW " + row, Checks.row(x, row, row + 2), row);
            }
            text += "row 1";
            for (int order = 0; order <= rows; order++) {
                text += " " + order;
            }
            text += ";";
        }
    }

    // ---- promises 8 to 12 ----

    /** OFF goes on by 1 a STEP, so that each STEP counts. */
    private static HuntingRudder byOne() {
        HuntingRudder x = C.with("wheel 1;row 1 1;row 9 -1;");
        x.ship(1, 1);
        return x;
    }

    /** "behind n STEPS (0 .. 1500), what 0 .. 5 the ORDER of that STEP (0 behind none)". */
    private static void led() {
        HuntingRudder x = byOne();
        for (int n : new int[] {0, 1, 2, 1499, 1500}) {
            C.due("OFF behind " + n, x.led(-1800, n, 4), n - 1800);
            C.due("ORDER behind " + n, x.led(-1800, n, 5), n == 0 ? 0 : 1);
            for (int what = 0; what < 4; what++) {
                C.due("what " + what + " behind " + n, x.led(0, n, what), n == 0 ? 0 : 1);
            }
        }
        C.due("from 1799", x.led(1799, 0, 4), 1799);
        C.due("from 1799 round", x.led(1799, 1, 4), -1800);
        C.due("from 1799 on", x.led(1799, 1500, 4), -301);
    }

    /** "A ROW steers from OFF, likewise". */
    private static void steer() {
        HuntingRudder x = byOne();
        for (int n : new int[] {0, 1, 2, 1499, 1500}) {
            C.due("OFF behind " + n, x.steer(0, -1800, n, 4), n - 1800);
            C.due("OFF by the other ROW behind " + n, x.steer(1, 1799, n, 4), 1799 - n);
            for (int what = 0; what < 6; what++) {
                if (what != 4) {
                    C.due("what " + what + " behind " + n, x.steer(1, 0, n, what), n == 0 ? 0 : -1);
                }
            }
        }
        C.due("round", x.steer(1, -1800, 1, 4), 1799);
    }

    /** "(its last ORDER stays)": of the longest ROW, 12 ORDERS of 9 STEPS, and of the shortest. */
    private static void steerBehindItsEnd() {
        HuntingRudder x = C.with("row 9 1 2 3 4 5 6 7 8 9 10 11 -12;row 1 1 2 3 4 5 6 7 8 9 10 11 -12;row 1 7;");
        for (int n = 1; n <= 120; n++) {
            int which = Math.min(12, (n + 8) / 9);
            C.due("9 STEPS each, " + n, x.steer(0, 0, n, 5), which == 12 ? -12 : which);
            C.due("1 STEP each, " + n, x.steer(1, 0, n, 5), n >= 12 ? -12 : n);
        }
        for (int n : new int[] {1, 2, 1499, 1500}) {
            C.due("one ORDER, " + n, x.steer(2, 0, n, 5), 7);
        }
        C.due("the longest behind 1500", x.steer(0, 0, 1500, 5), -12);
    }

    /** "what 0: 1 SETTLES, 2 HUNTS, 3 LOST, 1: FIRST, 2: PERIOD (both NONE, if LOST), 3: SWING." */
    private static void hunt() {
        HuntingRudder x = new HuntingRudder();
        int[] settles = {1, 0, 1, 0};
        int[] hunts = {2, 0, 400, 3591};
        int[] lost = {3, -1, -1, 1500};
        for (int what = 0; what < 4; what++) {
            x.ship(2, 0);
            C.due("SETTLES from -1800, " + what, x.hunt(-1800, what), settles[what]);
            C.due("SETTLES from 1799, " + what, x.hunt(1799, what), settles[what]);
            x.ship(2, 9);
            C.due("HUNTS from -1800, " + what, x.hunt(-1800, what), hunts[what]);
            C.due("HUNTS from 1799, " + what, x.hunt(1799, what), hunts[what]);
            x.ship(2, 1);
            C.due("LOST from -1800, " + what, x.hunt(-1800, what), lost[what]);
            x.ship(2, -1);
            C.due("LOST from 1799, " + what, x.hunt(1799, what), lost[what]);
        }
        // From 1799 on OFF goes round at once: -1800 .. -301 and 1799.
        x.ship(2, 1);
        C.due("SWING of all STEPS, round", x.hunt(1799, 3), 3599);
    }

    /** "of a .. b by c (1 .. 3600; a at most b) in n STEPS (0 .. 200), what 0: the greatest, 1: the OFF from which." */
    private static void worst() {
        HuntingRudder x = byOne();
        C.due("all of it in 0 STEPS", x.worst(-1800, 1799, 1, 0, 0), 1800);
        C.due("the first of all", x.worst(-1800, 1799, 1, 0, 1), -1800);
        C.due("from the second on", x.worst(-1799, 1799, 1, 0, 0), 1799);
        C.due("the second is the first of them", x.worst(-1799, 1799, 1, 0, 1), -1799);
        C.due("200 STEPS", x.worst(0, 0, 1, 200, 0), 200);
        C.due("199 STEPS", x.worst(0, 0, 3600, 199, 0), 199);
        C.due("200 STEPS lead from 1600 to 1800", x.worst(1500, 1799, 1, 200, 1), 1600);
        C.due("199 STEPS lead from 1601 to 1800", x.worst(1500, 1799, 1, 199, 1), 1601);
        C.due("the OFF may be -1", x.worst(-1, -1, 1, 0, 1), -1);
        C.due("a is b, the least", x.worst(-1800, -1800, 3600, 0, 1), -1800);
        C.due("a is b, the greatest", x.worst(1799, 1799, 1, 0, 1), 1799);
    }

    /** "HOLDS within a bound (0 .. 1800) in n STEPS (1 .. 500): the SPEED; -2: none does". */
    private static void holds() {
        // RUDDER 1 gives TURN 0 below SPEED 10, and SPEED by 10 then: OFF goes on with 10 and more alone.
        HuntingRudder x = byOne();
        C.due("the least SPEED holds", x.holds(0, 500), 1);
        HuntingRudder y = C.with("wheel 30;");
        y.part(2, 9);
        y.ship(1, 1);
        // RUDDER 6 in the first STEP: TURN is 0 by SPEED 1 and 1 by SPEED 2; RUDDER 12 in the second: 1 and 2.
        C.due("bound 0, 1 STEP", y.holds(0, 1), 1);
        C.due("bound 0, 2 STEPS", y.holds(0, 2), -2);
        C.due("bound 1, 2 STEPS", y.holds(1, 2), 1);
        C.due("bound 1800, 500 STEPS", y.holds(1800, 500), 1);
        C.due("bound 1799, 500 STEPS", y.holds(1799, 500) != -1, true);
        HuntingRudder z = new HuntingRudder();
        z.ship(2, 9);
        C.due("none does, bound 0", z.holds(0, 1), -2);
        C.due("none does, bound 1799", z.holds(1799, 500), -2);
        C.due("all do, bound 1800", z.holds(1800, 500), 1);
    }

    // ---- promises 13 to 17 ----

    /** "A MARK (STEPS above those of MARKS ahead): how many there are". */
    private static void marks() {
        for (int off : new int[] {-1800, 0, 1799}) {
            HuntingRudder x = new HuntingRudder();
            C.due("STEP 1", x.mark(1, off), 1);
            C.due("the same again", x.mark(1, off), -1);
            C.due("one above", x.mark(2, off), 2);
            C.due("STEP 199", x.mark(199, off), 3);
            C.due("one below", x.mark(198, off), -1);
            C.due("STEP 200", x.mark(200, off), 4);
            C.due("STEP 201", x.mark(201, off), -1);
            C.due("MARKS", x.count(5), 4);
            C.due("they fit where they were seen", x.fits(0, off, 0), 0);
        }
    }

    /** "NONE: .. there are 12." */
    private static void marksAreFull() {
        HuntingRudder x = new HuntingRudder();
        for (int k = 1; k <= 12; k++) {
            C.due("mark " + k, x.mark(187 + k, 0), k);
        }
        C.due("a 13th", x.mark(200, 1), -1);
        C.due("12 there are", x.count(5), 12);
        C.due("the 13th is not asked", x.fits(0, 0, 0), 0);
        C.due("wipe", x.wipe(), 12);
        for (int k = 1; k <= 12; k++) {
            C.due("mark " + k + " again", x.mark(k, k == 12 ? 1 : 0), k);
        }
        C.due("the 12th is asked", x.fits(0, 0, 0), -2);
    }

    /** "No MARKS: how many there were." */
    private static void wipe() {
        HuntingRudder x = new HuntingRudder();
        C.due("none there were", x.wipe(), 0);
        for (int marks = 1; marks <= 12; marks++) {
            for (int k = 1; k <= marks; k++) {
                x.mark(k, 5);
            }
            C.due("they do not fit", x.fits(4, 0, 0), -2);
            C.due("so many there were", x.wipe(), marks);
            C.due("none there are", x.count(5), 0);
            C.due("without MARKS all fits", x.fits(4, 0, 0), 0);
            C.due("none there were any more", x.wipe(), 0);
        }
    }

    /** "FITS by D (0 .. 3600) from OFF, what 0 .. 3". */
    private static void fits() {
        for (int off : new int[] {-1800, 1799}) {
            HuntingRudder x = new HuntingRudder();
            x.mark(200, off);
            for (int d : new int[] {0, 1, 3599, 3600}) {
                C.due("FEWEST", x.fits(d, off, 0), 0);
                C.due("SUSPECTS", x.fits(d, off, 1), 1);
                C.due("in some", x.fits(d, off, 2), 0);
                C.due("in all", x.fits(d, off, 3), 0);
            }
            C.due("from the other end by 3599", x.fits(3599, -1 - off, 0), 0);
            C.due("from the other end by 3600", x.fits(3600, -1 - off, 0), 0);
            C.due("from the other end by 3598", x.fits(3598, -1 - off, 0), -2);
            C.due("no SUSPECTS then", x.fits(3598, -1 - off, 1), 0);
        }
    }

    /** "with PARTS as they are": whatever was told since the same question is counted. */
    private static void fitsAnew() {
        HuntingRudder x = C.with("wheel 10;row 1 30;");
        C.due("no MARKS", x.fits(0, 0, 0), 0);
        x.mark(1, 0);
        C.due("a MARK", x.fits(0, 0, 0), 1);
        x.part(4, 1);
        C.due("a PART", x.fits(0, 0, 0), 0);
        x.part(4, 0);
        C.due("the PART back", x.fits(0, 0, 0), 1);
        x.ship(0, 1);
        C.due("SHIP", x.fits(0, 0, 0), 0);
        x.ship(0, 10);
        C.due("SHIP back", x.fits(0, 0, 0), 1);
        Checks.read(x, "wheel 0;");
        C.due("a TEXT", x.fits(0, 0, 0), 0);
        Checks.read(x, "wheel 10;");
        C.due("the TEXT back", x.fits(0, 0, 0), 1);
        Checks.read(x, "wheel 0;;");
        C.due("a TEXT with a FAULT", x.fits(0, 0, 0), 1);
        C.due("another D", x.fits(1, 0, 0), 0);
        C.due("the first D", x.fits(0, 0, 0), 1);
        C.due("another OFF", x.fits(0, -1, 0), 0);
        C.due("the first OFF", x.fits(0, 0, 0), 1);
        x.wipe();
        C.due("wiped", x.fits(0, 0, 0), 0);
    }

    /** "SUSPECT k (of these), what 0: its first PART, 1: its value, 2, 3: its second one (NONE). NONE: there is none such." */
    private static void suspect() {
        HuntingRudder x = C.with("wheel 10;");
        x.mark(1, 0);
        // OFF stays by RUDDER 2 and less: AIR 8, PIN 4 to 8 (RAM is 6), RATE 1 and 2, LAG 1 to 3, VALVE 1.
        int[][] due = {{0, 8}, {1, 4}, {1, 5}, {1, 6}, {1, 7}, {1, 8}, {2, 1}, {2, 2}, {3, 1}, {3, 2}, {3, 3}, {4, 1}};
        C.due("SUSPECTS", x.fits(0, 0, 1), due.length);
        C.due("each PART in some", x.fits(0, 0, 2), 31);
        C.due("none in all", x.fits(0, 0, 3), 0);
        for (int k = 0; k < due.length; k++) {
            C.due("PART of " + k, x.suspect(0, 0, k, 0), due[k][0]);
            C.due("value of " + k, x.suspect(0, 0, k, 1), due[k][1]);
            C.due("no second PART of " + k, x.suspect(0, 0, k, 2), -1);
            C.due("no second value of " + k, x.suspect(0, 0, k, 3), -1);
        }
        for (int what = 0; what < 4; what++) {
            C.due("k -1", x.suspect(0, 0, -1, what), -1);
            C.due("k beyond", x.suspect(0, 0, due.length, what), -1);
            C.due("of 0 one without PARTS", x.suspect(3600, 0, 0, what), -1);
        }
        HuntingRudder y = new HuntingRudder();
        y.mark(1, 9);
        C.due("no SUSPECTS: none is the first", y.suspect(8, 0, 0, 0), -1);
    }

    /** "NONE: no ROWS, fewer than two SUSPECTS": none, one, two. */
    private static void partsOfTwoSuspects() {
        String rows = "row 1 0;row 1 -30;";
        HuntingRudder x = C.with("wheel 12;" + rows);
        x.part(3, 1);
        x.part(4, 1);
        x.mark(1, 1);
        C.due("two SUSPECTS: VALVE 0 and 2 with LAG 0", x.fits(0, 0, 1), 2);
        C.due("the ROW", x.parts(0, 0, 1, 0), 1);
        C.due("its greatest group behind 1", x.parts(0, 0, 1, 1), 1);
        C.due("the ROW behind 200", x.parts(0, 0, 200, 0), 1);
        C.due("its greatest group behind 200", x.parts(0, 0, 200, 1), 1);
        C.due("no ROWS", Checks.read(x, "wheel 12;") == 1 && x.parts(0, 0, 1, 0) == -1 && x.parts(0, 0, 1, 1) == -1, true);
        C.due("one ROW that parts none", Checks.read(x, "wheel 12;row 1 30;"), 2);
        C.due("is the ROW", x.parts(0, 0, 200, 0), 0);
        C.due("its greatest group are both", x.parts(0, 0, 200, 1), 2);
        HuntingRudder one = C.with("wheel 12;" + rows);
        C.due("one SUSPECT", one.fits(0, 0, 1), 1);
        C.due("NONE with one", one.parts(0, 0, 9, 0), -1);
        C.due("NONE with one, group", one.parts(0, 0, 9, 1), -1);
        one.mark(1, 1000);
        C.due("no SUSPECTS", one.fits(0, 0, 1), 0);
        C.due("NONE with none", one.parts(0, 0, 9, 0), -1);
        C.due("NONE with none, group", one.parts(0, 0, 9, 1), -1);
    }

    // ---- promises 18 to 20 ----

    /** "5 bits each (a is 1; the first one highest of six, 0 behind the last one); NONE: there is none such." */
    private static void named() {
        for (char letter = 'a'; letter <= 'z'; letter++) {
            for (int length = 1; length <= 6; length++) {
                int letters = 0;
                for (int k = 0; k < length; k++) {
                    letters |= letter - 'a' + 1 << 25 - 5 * k;
                }
                HuntingRudder x = C.with("gear other;gear " + String.valueOf(letter).repeat(length) + ";");
                C.due("the letters " + letter + " times " + length, x.named(letters), 1);
                C.due("a bit less", x.named(letters - 1), -1);
                C.due("a bit more", x.named(letters + 1), -1);
                C.due("with bits above six letters", x.named(letters | 1 << 30), -1);
                C.due("with the sign", x.named(letters | MIN), -1);
                C.due("put last in stead of first", length == 6 ? -1 : x.named(letters >>> 30 - 5 * length), -1);
            }
        }
        HuntingRudder x = C.with("gear a;");
        for (int beyond = 27; beyond < 32; beyond++) {
            C.due("letters beyond z", x.named(beyond << 25), -1);
        }
        C.due("no letters", x.named(0), -1);
    }

    private static String gears(int n) {
        StringBuilder text = new StringBuilder();
        for (int k = 0; k < n; k++) {
            text.append("gear ").append((char) ('a' + k)).append(';');
        }
        return text.toString();
    }

    /** "Whether safe's B holds with GEARS (bits; 1, 0); NONE: bits of no GEARS." */
    private static void safe() {
        for (int n = 0; n <= 6; n++) {
            HuntingRudder free = C.with(gears(n));
            for (int bits = 0; bits < 1 << n; bits++) {
                C.due("without safe, " + bits + " of " + n, free.safe(bits), 1);
            }
            for (int bits : new int[] {MIN, -1, 1 << n, (1 << n) + 1, 128, MAX}) {
                C.due("no GEARS " + bits + " of " + n, free.safe(bits), -1);
            }
            for (int gear = 0; gear < n; gear++) {
                HuntingRudder x = C.with(gears(n) + "safe " + (char) ('a' + gear) + ";");
                for (int bits = 0; bits < 1 << n; bits++) {
                    C.due("GEAR " + gear + " in " + bits, x.safe(bits), bits >> gear & 1);
                }
                C.due("no such bits", x.safe(1 << n), -1);
            }
        }
    }

    /** "what 0: how many, 1 and on: GEAR what less 1 of it (NONE). -2: there is none; NONE: bits of no GEARS, no such what." */
    private static void drillOfNoGears() {
        for (int n = 0; n <= 6; n++) {
            HuntingRudder x = C.with(gears(n));
            int all = (1 << n) - 1;
            C.due("none to all", x.drill(0, all, 0), n);
            C.due("all to none", x.drill(all, 0, 0), n);
            C.due("all to all", x.drill(all, all, 0), 0);
            C.due("nothing of it", x.drill(all, all, 1), -1);
            for (int what = 1; what <= n; what++) {
                C.due("GEAR " + (what - 1), x.drill(0, all, what), what - 1);
            }
            C.due("no more", x.drill(0, all, n + 1), -1);
            C.due("far more", x.drill(0, all, MAX), -1);
            for (int bits : new int[] {MIN, -1, all + 1, MAX}) {
                C.due("a of no GEARS", x.drill(bits, 0, 0), -1);
                C.due("b of no GEARS", x.drill(0, bits, 0), -1);
            }
            C.due("what -1", x.drill(0, all, -1), -1);
            C.due("what MIN", x.drill(0, all, MIN), -1);
        }
        HuntingRudder never = C.with("gear a if a and not a;");
        C.due("there is none", never.drill(0, 1, 0), -2);
        C.due("no GEAR of it either", never.drill(0, 1, 1), -2);
        C.due("no such what ahead of none", never.drill(0, 1, -1), -1);
        C.due("bits of no GEARS ahead of none", never.drill(0, 2, 0), -1);
    }

    /** The longest DRILL, through all 64 sets of six GEARS. */
    private static void drillOfSixGears() {
        HuntingRudder x = C.with("gear a;gear b if a;gear c if b and not a;gear d if c and not b and not a;"
            + "gear e if d and not c and not b and not a;gear f if e and not d and not c and not b and not a;");
        C.due("63 changes", x.drill(0, 32, 0), 63);
        int gears = 0;
        for (int what = 1; what <= 63; what++) {
            // The GEAR changed is the number of zeros behind the last one bit of what: a Gray code.
            int due = Integer.numberOfTrailingZeros(what);
            C.due("change " + what, x.drill(0, 32, what), due);
            gears ^= 1 << due;
        }
        C.due("it ends with f alone", gears, 32);
        C.due("no 64th", x.drill(0, 32, 64), -1);
        C.due("back again", x.drill(32, 0, 0), 63);
        C.due("all but the first", x.drill(1, 32, 0), 62);
    }

    // ---- promises 21 to 25 ----

    /** "A trial by hand begins from OFF (all else 0): true". */
    private static void begin() {
        for (int off : new int[] {-1800, -1, 0, 1799}) {
            HuntingRudder x = new HuntingRudder();
            x.begin(9);
            for (int k = 0; k < 9; k++) {
                x.order(30);
            }
            C.due("begin(" + off + ")", x.begin(off), true);
            for (int what = 0; what < 6; what++) {
                C.due("now(" + what + ")", x.now(what), what == 4 ? off : 0);
            }
            x.part(3, 3);
            for (int k = 0; k < 3; k++) {
                x.order(7);
                C.due("no ORDER of the trial ahead", x.now(0), 0);
            }
        }
    }

    /** "A STEP by hand with an ORDER: OFF": each ORDER -30 .. 30. */
    private static void orders() {
        for (int order = -30; order <= 30; order++) {
            HuntingRudder x = new HuntingRudder();
            x.begin(0);
            x.ship(2, 3);
            int off = x.order(order);
            C.due("OFF of " + order, off, 3 + Math.max(-4, Math.min(4, order)) / 3);
            C.due("WHEEL of " + order, x.now(0), order);
            C.due("OFF is now(4)", x.now(4), off);
            C.due("STEPS", x.now(5), 1);
        }
        HuntingRudder x = new HuntingRudder();
        x.begin(1799);
        x.ship(2, 1);
        C.due("round", x.order(0), -1800);
    }

    /** "there were 100": a 100th STEP is taken, a 101st is not; behind back() and begin() there is room again. */
    private static void hundredOrders() {
        HuntingRudder x = new HuntingRudder();
        x.ship(2, 1);
        x.begin(0);
        for (int k = 1; k <= 100; k++) {
            C.due("STEP " + k, x.order(0), k);
            C.due("STEPS", x.now(5), k);
        }
        C.due("a 101st", x.order(0), MIN);
        C.due("nothing happens", x.now(5) == 100 && x.now(4) == 100, true);
        C.due("back", x.back(), 99);
        C.due("a 100th again", x.order(0), 100);
        C.due("a 101st again", x.order(0), MIN);
        C.due("begin", x.begin(-1800), true);
        for (int k = 1; k <= 100; k++) {
            C.due("STEP " + k + " anew", x.order(0), k - 1800);
        }
        C.due("a 101st anew", x.order(0), MIN);
    }

    /** "The latest STEP is taken back: how many there are; NONE: none, no trial." */
    private static void back() {
        HuntingRudder x = new HuntingRudder();
        C.due("no trial", x.back(), -1);
        x.begin(0);
        C.due("none", x.back(), -1);
        C.due("the trial stays", x.now(5), 0);
        x.ship(2, 1);
        for (int k = 1; k <= 100; k++) {
            x.order(0);
        }
        for (int left = 99; left >= 0; left--) {
            C.due("left", x.back(), left);
            C.due("OFF then", x.now(4), left);
        }
        C.due("none any more", x.back(), -1);
        C.due("at its start", x.now(4) == 0 && x.now(5) == 0, true);
    }

    /** All of the STATE is as it was, the ORDERS of the three STEPS ahead too. */
    private static void backTellsTheStateAhead() {
        HuntingRudder x = new HuntingRudder();
        x.begin(1790);
        x.ship(0, 20);
        x.ship(1, 1);
        x.part(2, 9);
        int[][] due = new int[13][6];
        for (int step = 0; step <= 12; step++) {
            for (int what = 0; what < 6; what++) {
                due[step][what] = x.now(what);
            }
            if (step < 12) {
                x.order(step < 6 ? 30 : -30);
            }
        }
        for (int step = 11; step >= 0; step--) {
            x.back();
            for (int what = 0; what < 6; what++) {
                C.due("behind " + step + " again, " + what, x.now(what), due[step][what]);
            }
        }
        for (int order = -29; order <= 29; order += 2) {
            HuntingRudder y = new HuntingRudder();
            y.begin(order);
            y.part(2, 1);
            for (int k = 0; k < 9; k++) {
                y.order(order);
            }
            int[] ahead = {y.now(0), y.now(1), y.now(2), y.now(3), y.now(4)};
            y.order(-order);
            y.back();
            for (int what = 0; what < 5; what++) {
                C.due("ORDER " + order + " taken back, " + what, y.now(what), ahead[what]);
            }
        }
    }

    /** All three ORDERS ahead are as they were. */
    private static void backTellsTheOrdersAhead() {
        for (int order = -30; order <= 28; order++) {
            HuntingRudder x = new HuntingRudder();
            x.begin(0);
            x.order(order);
            x.order(order + 1);
            x.order(order + 2);
            for (int lag = 1; lag <= 3; lag++) {
                x.part(3, 0);
                x.order(-order);
                C.due("back", x.back(), 3);
                x.part(3, lag);
                x.order(30);
                C.due("the ORDER of " + lag + " STEPS ahead", x.now(0), order + 3 - lag);
                x.back();
            }
        }
    }

    /** "what 0 .. 4 as in led(), 5: STEPS." */
    private static void now() {
        HuntingRudder x = C.with("wheel 20;");
        x.ship(2, -4);
        x.begin(-7);
        for (int n = 0; n <= 40; n++) {
            for (int what = 0; what < 5; what++) {
                C.due("now(" + what + ") behind " + n, x.now(what), x.led(-7, n, what));
            }
            C.due("STEPS", x.now(5), n);
            x.order(20);
        }
    }

    /** "0 wheel LINES .. 13": each with what it can be, least and most. */
    private static void count() {
        HuntingRudder x = C.with("gear a;gear b if a and b;wheel 1;if off wheel 2+3;row 1 1;row 1 2;row 1 3;safe a;");
        x.mark(1, 0);
        x.mark(2, 0);
        int[] due = {2, 2, 3, 5, 4, 2, 10, 3, 0, 0, 0, 4, 0, 0};
        for (int what = 0; what < due.length; what++) {
            C.due("count(" + what + ")", x.count(what), due[what]);
        }
        for (int wind = -9; wind <= 9; wind++) {
            x.ship(2, wind);
            C.due("WIND may be -1", x.count(8), wind);
        }
        for (int what : new int[] {MIN, -2, -1, 14, 15, MAX}) {
            C.due("another what " + what, x.count(what), -1);
        }
    }
}
