import java.util.ArrayList;
import java.util.HashMap;
import java.util.LinkedHashMap;
import java.util.List;
import java.util.Map;

/**
 * Where two promises meet: a change between two questions, a question between two changes, a refused
 * call between two that are taken, and answers of one call that follow from those of others. No
 * object comes to its 512th call.
 */
public final class MeetingsTest {
    private static final int MIN = Integer.MIN_VALUE;
    private static final int NO_ROW = 1_000_001;
    private static final int NO_WHAT = 1_000_002;
    private static final Checks C = new Checks();

    /** Some calls on an object. */
    private interface Calls {
        void on(HuntingRudder x);
    }

    public static void main(String[] args) {
        questionsChangeNothing();
        changesBehindQuestions();
        changesOfOneAnother();
        textBehindMarks();
        marksBehindText();
        settingsInATrial();
        lagInATrial();
        backLeavesSettings();
        textInATrial();
        feedGoesOnBehindRefused();
        marksGoOnBehindRefused();
        trialGoesOnBehindRefused();
        faultBehindRefused();
        faultIsOfTheText();
        tapeBehindText();
        fewerInTheNextText();
        suspectsThatBecomeTrue();
        partsBySteer();
        trialByLedAndSteer();
        huntByLed();
        worstAndHoldsByLed();
        drillsBySafe();
        drillsOfTheNextText();
        C.end("MeetingsTest");
    }

    // ---- every question with every change ----

    private static Map<String, Calls> questions() {
        Map<String, Calls> all = new LinkedHashMap<>();
        all.put("fault", x -> x.fault(0));
        all.put("row", x -> Checks.row(x, 0, 3));
        all.put("row that throws", x -> Checks.row(x, 6, 0));
        all.put("row's what that throws", x -> Checks.row(x, 0, 4));
        all.put("led", x -> x.led(100, 30, 4));
        all.put("led to the end", x -> x.led(-1800, 1500, 4));
        all.put("steer", x -> x.steer(0, -100, 33, 4));
        all.put("hunt", x -> x.hunt(100, 3));
        all.put("hunt from afar", x -> x.hunt(-1799, 0));
        all.put("worst", x -> x.worst(-900, 900, 100, 50, 1));
        all.put("holds", x -> x.holds(7, 9));
        all.put("holds by none", x -> x.holds(0, 500));
        all.put("fits", x -> x.fits(0, 100, 0));
        all.put("fits by 3", x -> x.fits(3, 100, 3));
        all.put("fits of another OFF", x -> x.fits(0, 99, 0));
        all.put("suspect", x -> x.suspect(3, 100, 1, 1));
        all.put("parts", x -> x.parts(3, 100, 20, 0));
        all.put("named", x -> x.named(Checks.letters("b")));
        all.put("safe", x -> x.safe(5));
        all.put("drill", x -> x.drill(1, 6, 1));
        all.put("drill of nothing", x -> x.drill(1, 0, 0));
        all.put("now", x -> x.now(4));
        all.put("count", x -> x.count(3));
        return all;
    }

    private static Map<String, Calls> changes() {
        Map<String, Calls> all = new LinkedHashMap<>();
        all.put("feed", x -> Checks.feed(x, "wheel 3;"));
        all.put("text of the TAPE", x -> x.text(8));
        all.put("text of no bytes", x -> x.text(0));
        all.put("text with a FAULT", x -> x.text(13));
        all.put("another text", x -> {
            x.text(0);
            Checks.read(x, "gear b;gear a if b;safe b or not a;row 1 30 0 -30;wheel 0-off/3;");
        });
        all.put("AIR", x -> x.part(0, 8));
        all.put("PIN", x -> x.part(1, 0));
        all.put("RATE", x -> x.part(2, 1));
        all.put("LAG", x -> x.part(3, 3));
        all.put("VALVE", x -> x.part(4, 2));
        all.put("SPEED", x -> x.ship(0, 20));
        all.put("INERTIA", x -> x.ship(1, 1));
        all.put("WIND", x -> x.ship(2, -9));
        all.put("mark", x -> x.mark(20, 130));
        all.put("wipe", x -> x.wipe());
        all.put("wipe and mark", x -> {
            x.wipe();
            x.mark(1, 102);
        });
        all.put("begin", x -> x.begin(-7));
        all.put("order", x -> x.order(30));
        all.put("back", x -> x.back());
        all.put("back and order", x -> {
            x.back();
            x.order(-30);
        });
        return all;
    }

    /** A question answers and changes nothing: neither what is seen nor what the next question answers. */
    private static void questionsChangeNothing() {
        List<Long> due = Seen.all(RefusedTest.furnished());
        questions().forEach((name, question) -> {
            HuntingRudder x = RefusedTest.furnished();
            question.on(x);
            C.due("behind " + name + " all is as it was", due != null && due.equals(Seen.all(x)), true);
        });
    }

    /** What a call answered ahead of a change is never told behind it. */
    private static void changesBehindQuestions() {
        changes().forEach((change, changing) -> {
            HuntingRudder y = RefusedTest.furnished();
            changing.on(y);
            List<Long> due = Seen.all(y);
            questions().forEach((name, question) -> {
                HuntingRudder x = RefusedTest.furnished();
                question.on(x);
                changing.on(x);
                C.due(change + " behind " + name, due != null && due.equals(Seen.all(x)), true);
            });
        });
    }

    /** Changes of parts of an object that do not touch one another may come in either order. */
    private static void changesOfOneAnother() {
        String[] settings = {"AIR", "PIN", "RATE", "LAG", "VALVE", "SPEED", "INERTIA", "WIND"};
        String[] others = {"feed", "text of the TAPE", "text of no bytes", "text with a FAULT", "mark", "wipe", "begin", "back"};
        Map<String, Calls> all = changes();
        for (String one : settings) {
            for (String other : others) {
                HuntingRudder x = RefusedTest.furnished();
                HuntingRudder y = RefusedTest.furnished();
                all.get(one).on(x);
                all.get(other).on(x);
                all.get(other).on(y);
                all.get(one).on(y);
                C.due(one + " and " + other + " in either order", Seen.all(x).equals(Seen.all(y)), true);
            }
        }
    }

    // ---- text and marks ----

    /** "LED from the OFF told": by the TEXT that there is, also if MARKS came ahead of it. They stay. */
    private static void textBehindMarks() {
        HuntingRudder x = C.with("wheel 10;");
        x.mark(1, 1);
        x.mark(2, 4);
        C.due("fits by the first TEXT", x.fits(0, 0, 0), 0);
        C.due("one without PARTS", x.fits(0, 0, 1), 1);
        C.due("a second TEXT", Checks.read(x, "wheel 0;row 1 30;"), 2);
        C.due("the MARKS stay", x.count(5), 2);
        C.due("nothing moves the ship any more", x.fits(0, 0, 0), -2);
        C.due("no SUSPECTS", x.fits(0, 0, 1), 0);
        C.due("no SUSPECT", x.suspect(0, 0, 0, 0), -1);
        C.due("nothing to part", x.parts(0, 0, 9, 0), -1);
        C.due("4 away is near enough", x.fits(4, 0, 0), 0);
        C.due("a TEXT with a FAULT", Checks.read(x, "wheel 10;wheel"), -1);
        C.due("still by the second", x.fits(0, 0, 0), -2);
        C.due("no such text", x.text(1), -2);
        C.due("by the second even then", x.fits(0, 0, 0), -2);
        C.due("no LINES", x.text(0), 0);
        C.due("ORDER 0 moves nothing either", x.fits(0, 0, 0), -2);
        C.due("the first TEXT again", Checks.read(x, "wheel 10;"), 1);
        C.due("fits as at first", x.fits(0, 0, 0), 0);
        C.due("a MARK further on", x.mark(3, 1000), 3);
        C.due("fits no more", x.fits(0, 0, 0), -2);
        C.due("three MARKS were there", x.wipe(), 3);
    }

    /** "No MARKS": behind a wipe() they begin anew, and those that were do not count. */
    private static void marksBehindText() {
        HuntingRudder x = C.with("wheel 10;row 1 30;row 9 0;");
        x.mark(200, 0);
        C.due("none behind 200", x.mark(1, 0), -1);
        C.due("one was there", x.wipe(), 1);
        C.due("a first MARK again", x.mark(1, 0), 1);
        C.due("only that counts", x.fits(0, 0, 0), 1);
        int suspects = x.fits(0, 0, 1);
        C.due("several can have failed", suspects >= 2, true);
        C.due("ROW 1 does not part them", x.parts(0, 0, 9, 1) <= suspects && x.parts(0, 0, 9, 0) == 0, true);
        Checks.read(x, "wheel 10;row 9 0;row 1 30;");
        C.due("ROWS the other way round", x.parts(0, 0, 9, 0), 1);
        Checks.read(x, "wheel 10;");
        C.due("as many SUSPECTS", x.fits(0, 0, 1), suspects);
        C.due("no ROWS", x.parts(0, 0, 9, 0), -1);
    }

    // ---- a trial by hand and what is told between its STEPS ----

    /** "A STEP by hand with an ORDER": with PARTS and SHIP as they are at that STEP. */
    private static void settingsInATrial() {
        HuntingRudder x = new HuntingRudder();
        x.begin(0);
        C.due("RUDDER 4, TURN 1", x.order(10), 1);
        x.part(2, 1);
        C.due("part() moves nothing", x.now(4) == 1 && x.now(2) == 4 && x.now(5) == 1, true);
        C.due("RUDDER 5, TURN 2", x.order(10), 3);
        x.ship(0, 20);
        C.due("ship() moves nothing", x.now(4) == 3 && x.now(3) == 2, true);
        C.due("RUDDER 6, TURN 2 and 10 by 3", x.order(10), 8);
        x.ship(2, -9);
        C.due("RUDDER 7, TURN 5 and 9 by 3, less WIND", x.order(10), 7);
        x.part(4, 1);
        C.due("RUDDER stays at 7, TURN 8 and 6 by 3", x.order(30), 8);
        C.due("so it does", x.now(2), 7);
        x.part(0, 8);
        C.due("RAM had gone to 16", x.now(1), 16);
        C.due("a STEP within AIR", x.order(24) != MIN && x.now(1) == 16 && x.now(0) == 24, true);
        x.part(1, 8);
        x.part(4, 0);
        C.due("RAM 9 ahead, PIN 8: RUDDER goes by 1", x.order(24) != MIN && x.now(2) == 8, true);
        x.ship(1, 1);
        C.due("INERTIA 1: TURN is 16 at once", x.order(24) != MIN && x.now(3) == 16, true);
        C.due("eight STEPS", x.now(5), 8);
    }

    /** "WHEEL is the ORDER of LAG STEPS ahead", also of STEPS that had another LAG. */
    private static void lagInATrial() {
        HuntingRudder x = new HuntingRudder();
        x.part(3, 3);
        x.begin(0);
        x.order(5);
        C.due("none yet: 0", x.now(0), 0);
        x.part(3, 0);
        x.order(-7);
        C.due("LAG 0", x.now(0), -7);
        x.order(9);
        x.part(3, 2);
        x.order(1);
        C.due("LAG 2", x.now(0), -7);
        x.part(3, 3);
        x.order(2);
        C.due("LAG 3", x.now(0), -7);
        x.part(3, 1);
        x.order(3);
        C.due("LAG 1", x.now(0), 2);
        x.back();
        x.back();
        C.due("four STEPS are there", x.now(5), 4);
        x.part(3, 3);
        x.order(4);
        C.due("LAG 3 behind those taken back", x.now(0), -7);
        x.order(4);
        C.due("and the next", x.now(0), 9);
        x.order(4);
        C.due("and the one of STEP 4", x.now(0), 1);
    }

    /** "The latest STEP is taken back": nothing else is, neither PARTS nor SHIP nor MARKS. */
    private static void backLeavesSettings() {
        HuntingRudder x = new HuntingRudder();
        x.begin(100);
        x.order(10);
        x.part(2, 9);
        x.ship(0, 20);
        x.ship(2, -9);
        x.mark(3, 3);
        C.due("RAM 10, RUDDER 10, TURN 1 and 19 by 3", x.order(10), 99);
        C.due("one STEP is there", x.back(), 1);
        C.due("OFF behind it", x.now(4), 101);
        C.due("RATE", x.count(11), 9);
        C.due("SPEED", x.count(6), 20);
        C.due("WIND", x.count(8), -9);
        C.due("a MARK", x.count(5), 1);
        C.due("the same STEP again", x.order(10), 99);
        x.back();
        C.due("none is there", x.back(), 0);
        C.due("RUDDER 6, TURN 4: by what is told now", x.order(10), 95);
        x.begin(100);
        C.due("begun anew there are none", x.back(), -1);
        C.due("PARTS stay", x.count(11), 9);
        C.due("the same from a new start", x.order(10), 95);
    }

    /** The TEXT does not steer a trial by hand, and a trial does not change what it steers. */
    private static void textInATrial() {
        HuntingRudder x = C.with("wheel 30;row 1 -30;");
        x.begin(0);
        C.due("by hand", x.order(0), 0);
        C.due("by the TEXT", x.led(0, 1, 4), 1);
        C.due("a TEXT in a trial", Checks.read(x, "wheel 0-30;"), 1);
        C.due("the trial goes on", x.now(5), 1);
        C.due("still by hand", x.order(10), 1);
        C.due("by the new TEXT", x.led(0, 1, 4), -1);
        C.due("a TEXT with a FAULT", Checks.read(x, "wheel 5"), -1);
        C.due("two STEPS", x.now(5), 2);
        C.due("RUDDER 8, TURN 3", x.order(10), 4);
        C.due("no TEXT", x.text(0), 0);
        C.due("back behind it", x.back(), 2);
        C.due("OFF then", x.now(4), 1);
    }

    // ---- refused between two that are taken ----

    /** "-2, and the TAPE stays"; "NONE, and none come". */
    private static void feedGoesOnBehindRefused() {
        HuntingRudder x = new HuntingRudder();
        Checks.feed(x, "wheel");
        C.due("there are 20", x.text(21), -2);
        C.due("below 0", x.text(-1), -2);
        Checks.feed(x, "7;");
        C.due("both together are a TEXT", x.text(22), 1);
        C.due("its ORDER", x.led(0, 1, 5), 7);
        StringBuilder s = new StringBuilder("wheel 5;".repeat(12));
        s.append(" ".repeat(600 - s.length()));
        HuntingRudder y = new HuntingRudder();
        Checks.feed(y, s.toString());
        C.due("full", y.feed(0x23232323, 0x23232323, 0x23232323, 0x23232323, 0x23232323), -1);
        C.due("not so many", y.text(601), -2);
        C.due("full still", y.feed(0x23232323, 0x23232323, 0x23232323, 0x23232323, 0x23232323), -1);
        C.due("as if none had come", y.text(600), 12);
        C.due("room again", y.feed(0x23232323, 0x20202020, 0x20202020, 0x20202020, 0x20202020), 20);
        C.due("they are a FAULT", y.text(1) == -1 && y.fault(0) == 1 && y.fault(1) == 0, true);
    }

    /** "STEPS above those of MARKS ahead": a refused one is no MARK ahead. */
    private static void marksGoOnBehindRefused() {
        HuntingRudder x = C.with("wheel 10;");
        C.due("first", x.mark(1, 1), 1);
        C.due("no such OFF", x.mark(9, 1800), -1);
        C.due("no such STEP", x.mark(201, 4), -1);
        C.due("not above", x.mark(1, 1), -1);
        C.due("below 1", x.mark(0, 0), -1);
        C.due("above the first, not above the refused", x.mark(2, 4), 2);
        C.due("fits both and no other", x.fits(0, 0, 0), 0);
        C.due("refused D", x.fits(-1, 0, 0), -1);
        C.due("refused OFF", x.suspect(0, -1801, 0, 0), -1);
        C.due("fits still", x.fits(0, 0, 1), 1);
    }

    /** "Integer.MIN_VALUE, and nothing happens". */
    private static void trialGoesOnBehindRefused() {
        HuntingRudder x = new HuntingRudder();
        C.due("no trial yet", x.order(10) == MIN && x.back() == -1 && x.now(5) == MIN, true);
        C.due("no such start", x.begin(1800), false);
        C.due("no trial by that", x.order(10) == MIN && x.back() == -1 && x.now(5) == MIN, true);
        C.due("a trial", x.begin(0), true);
        C.due("none to take back", x.back(), -1);
        C.due("first", x.order(10), 1);
        C.due("refused", x.order(31) == MIN && x.order(-31) == MIN && !x.begin(-1801), true);
        C.due("no such PART", x.part(0, 9) || x.part(5, 0) || x.part(2, 0) || x.ship(1, 0) || x.ship(3, 1), false);
        C.due("no such what", x.now(6) == MIN && x.now(-1) == MIN, true);
        C.due("one STEP", x.now(5), 1);
        C.due("as if nothing had been asked", x.order(10), 4);
        C.due("LAG 3 has only these ahead", x.part(3, 3) && x.order(0) != MIN && x.now(0) == 0, true);
        C.due("and then the first", x.order(0) != MIN && x.now(0) == 10, true);
    }

    /** "Of the latest text() that was not -2". */
    private static void faultBehindRefused() {
        HuntingRudder x = new HuntingRudder();
        C.due("-2 on a new object", x.text(1), -2);
        C.due("no FAULT", x.fault(0) == 0 && x.fault(1) == -1, true);
        Checks.feed(x, "wheel 1;  safe");
        C.due("-2", x.text(21), -2);
        C.due("no FAULT still", x.fault(0) == 0 && x.fault(1) == -1, true);
        C.due("a FAULT", x.text(14), -1);
        C.due("at the length", x.fault(0) == 1 && x.fault(1) == 14, true);
        C.due("-2 on the empty TAPE", x.text(1), -2);
        C.due("the FAULT stays", x.fault(0) == 1 && x.fault(1) == 14, true);
        Checks.feed(x, "wheel 1;wheel 10000;");
        C.due("fed, not read", x.fault(0) == 1 && x.fault(1) == 14, true);
        C.due("its first LINE alone", x.text(8), 1);
        C.due("no FAULT", x.fault(0) == 0 && x.fault(1) == -1, true);
        C.due("-2 behind it", x.text(12), -2);
        C.due("no FAULT even then", x.fault(0) == 0 && x.fault(1) == -1, true);
        C.due("no other what", x.fault(2) == -1 && x.fault(-1) == -1, true);
    }

    /** A TEXT's FAULT is its own: not of what was on the TAPE behind it, nor of a TEXT ahead. */
    private static void faultIsOfTheText() {
        HuntingRudder x = C.with("gear a;gear b if a;safe a;");
        C.due("a W of the TEXT ahead is no GEAR of this one", Checks.read(x, "gear c if a;"), -1);
        C.due("FAULT 4", x.fault(0) == 4 && x.fault(1) == 10, true);
        C.due("the GEARS ahead stay", x.named(Checks.letters("b")) == 1 && x.named(Checks.letters("c")) == -1, true);
        C.due("a GEAR of the TEXT ahead is not told already", Checks.read(x, "gear b;safe b;"), 2);
        C.due("b is the first now", x.named(Checks.letters("b")), 0);
        C.due("a is none now", x.named(Checks.letters("a")), -1);
        C.due("12 LINES", Checks.read(x, "wheel 1;".repeat(12)), 12);
        C.due("12 more in the next TEXT", Checks.read(x, "wheel 2;".repeat(12)), 12);
        C.due("KNOTS of this TEXT alone", x.count(3), 12);
        C.due("no GEARS", x.count(1) == 0 && x.count(4) == 0, true);
    }

    /** "The TAPE's first n bytes (it is empty then)". */
    private static void tapeBehindText() {
        HuntingRudder x = new HuntingRudder();
        Checks.feed(x, "wheel 5;wheel 6;");
        C.due("the first LINE", x.text(8), 1);
        C.due("the rest is gone", x.text(1), -2);
        C.due("one LINE", x.count(0), 1);
        Checks.feed(x, "wheel 7;#");
        C.due("a FAULT", x.text(9), -1);
        C.due("the rest is gone behind a FAULT too", x.text(1), -2);
        C.due("by the first still", x.led(0, 1, 5), 5);
        C.due("fed anew", x.feed(0x77686565, 0x6c20383b, 0x20202020, 0x20202020, 0x20202020), 20);
        C.due("no bytes of it", x.text(0), 0);
        C.due("gone too", x.text(1), -2);
        C.due("no TEXT", x.count(0) == 0 && x.led(0, 1, 5) == 0, true);
    }

    /** What the next TEXT does not tell is told no more. */
    private static void fewerInTheNextText() {
        HuntingRudder x = C.with("gear a;gear b;gear c;safe a or b;row 1 1 2 3;row 2 4;row 3 5;if off wheel 1;wheel 2;");
        C.due("a ROW", Checks.row(x, 2, 0) == 3 && Checks.row(x, 0, 4) == 3, true);
        C.due("GEARS", x.safe(7) == 1 && x.safe(4) == 0 && x.drill(1, 4, 0) == -2, true);
        C.due("less of all", Checks.read(x, "row 9 -30 30;gear c;"), 2);
        C.due("no such ROWS", Checks.row(x, 1, 0) == NO_ROW && Checks.row(x, 2, 0) == NO_ROW, true);
        C.due("the ROW", Checks.row(x, 0, 0) == 9 && Checks.row(x, 0, 1) == 2 && Checks.row(x, 0, 2) == -30, true);
        C.due("no third ORDER", Checks.row(x, 0, 4), NO_WHAT);
        C.due("no such ROW steers", x.steer(1, 0, 1, 0), MIN);
        C.due("bits of no GEARS", x.safe(2) == -1 && x.drill(0, 2, 0) == -1, true);
        C.due("no safe", x.safe(0) == 1 && x.drill(1, 0, 0) == 1, true);
        C.due("no wheel LINES", x.led(5, 1, 5) == 0 && x.count(0) == 0, true);
        C.due("no KNOTS", x.count(3) == 0 && x.count(4) == 0, true);
    }

    // ---- answers that follow from one another ----

    /** A SUSPECT's PARTS, told by part(), FIT: nothing needs to FAIL then, and led() is near the MARKS. */
    private static void suspectsThatBecomeTrue() {
        int[][] wakes = {{1, 100, 3, 100}, {2, 97, 9, 60}, {4, 103, 7, 120}};
        for (int[] wake : wakes) {
            for (int d = 0; d < 9; d += 4) {
                HuntingRudder x = wakeOf(wake);
                int suspects = Math.min(24, x.fits(d, 100, 1));
                for (int k = 0; k < suspects; k++) {
                    HuntingRudder y = wakeOf(wake);
                    becomeSuspect(y, x, d, k);
                    C.due("SUSPECT " + k + " FITS by " + d, y.fits(d, 100, 0), 0);
                    C.due("near the first MARK", Math.abs(y.led(100, wake[0], 4) - wake[1]) <= d, true);
                    C.due("near the second MARK", Math.abs(y.led(100, wake[2], 4) - wake[3]) <= d, true);
                }
            }
        }
    }

    private static HuntingRudder wakeOf(int[] wake) {
        HuntingRudder x = C.with("wheel 0-off/10;row 2 10 -10;row 1 -1;row 3 30;");
        x.mark(wake[0], wake[1]);
        x.mark(wake[2], wake[3]);
        return x;
    }

    private static void becomeSuspect(HuntingRudder y, HuntingRudder x, int d, int k) {
        y.part(x.suspect(d, 100, k, 0), x.suspect(d, 100, k, 1));
        y.part(x.suspect(d, 100, k, 2), x.suspect(d, 100, k, 3));
    }

    /** parts() by steer() of objects whose PARTS are those of the SUSPECTS. */
    private static void partsBySteer() {
        int[] wake = {1, 100, 3, 100};
        for (int n : new int[] {1, 3, 6, 20}) {
            HuntingRudder x = wakeOf(wake);
            int best = -1;
            int least = -1;
            for (int row = 0; row < 3; row++) {
                Map<List<Integer>, Integer> groups = new HashMap<>();
                for (int k = 0; k < x.fits(0, 100, 1); k++) {
                    HuntingRudder y = wakeOf(wake);
                    becomeSuspect(y, x, 0, k);
                    List<Integer> offs = new ArrayList<>();
                    for (int step = 1; step <= n; step++) {
                        offs.add(y.steer(row, 0, step, 4));
                    }
                    groups.merge(offs, 1, Integer::sum);
                }
                int greatest = java.util.Collections.max(groups.values());
                if (row == 0 || greatest < least) {
                    best = row;
                    least = greatest;
                }
            }
            C.due("the ROW in " + n, x.parts(0, 100, n, 0), best);
            C.due("its greatest group in " + n, x.parts(0, 100, n, 1), least);
        }
    }

    /** By hand with the ORDERS of a TEXT or a ROW all goes as by these. */
    private static void trialByLedAndSteer() {
        for (int lag = 0; lag <= 3; lag++) {
            HuntingRudder x = C.with("if off>20 wheel 0-off/4;wheel 9-turn*3;row 2 30 -30 15;");
            x.part(3, lag);
            x.part(0, lag);
            x.ship(2, 2 - lag);
            x.begin(50);
            HuntingRudder y = C.with("row 2 30 -30 15;");
            y.part(3, lag);
            y.begin(-1790);
            for (int step = 1; step <= 12; step++) {
                C.due("by the TEXT, LAG " + lag + " STEP " + step, x.order(x.led(50, step, 5)), x.led(50, step, 4));
                C.due("by the ROW, LAG " + lag + " STEP " + step, y.order(y.steer(0, -1790, step, 5)), y.steer(0, -1790, step, 4));
                for (int what = 0; what < 5; what++) {
                    C.due("now " + what, x.now(what), x.led(50, step, what));
                    C.due("now " + what, y.now(what), y.steer(0, -1790, step, what));
                }
            }
        }
    }

    /** Behind FIRST and PERIOD STEPS led() tells what it told behind FIRST. */
    private static void huntByLed() {
        HuntingRudder x = C.with("if off>0 wheel 0-30;if off<0 wheel 30;");
        for (int off : new int[] {-1800, -100, -1, 0, 1, 50, 1799}) {
            int kind = x.hunt(off, 0);
            if (kind == 3) {
                continue;
            }
            int first = x.hunt(off, 1);
            int period = x.hunt(off, 2);
            C.due("SETTLES by a PERIOD of 1", kind == 1, period == 1);
            for (int what = 0; what < 6 && first > 0 && first + period <= 1500; what++) {
                C.due("from " + off + " again: " + what, x.led(off, first + period, what), x.led(off, first, what));
            }
        }
        C.due("from 0 it SETTLES", x.hunt(0, 0) == 1 && x.hunt(0, 1) == 0, true);
        C.due("from 50 it HUNTS", x.hunt(50, 0), 2);
    }

    /** worst() and holds() by led() of each start or SPEED; SPEED is as it was behind holds(). */
    private static void worstAndHoldsByLed() {
        HuntingRudder x = C.with("if off>0 wheel 0-30;if off<0 wheel 30;");
        int most = -1;
        int from = 0;
        for (int off = -90; off <= 100; off += 45) {
            int far = 0;
            for (int step = 0; step <= 30; step++) {
                far = Math.max(far, Math.abs(x.led(off, step, 4)));
            }
            if (far > most) {
                most = far;
                from = off;
            }
        }
        C.due("the greatest", x.worst(-90, 100, 45, 30, 0), most);
        C.due("its start", x.worst(-90, 100, 45, 30, 1), from);
        HuntingRudder y = C.with("wheel 0-off-turn*3;");
        y.ship(2, 4);
        int holds = y.holds(16, 20);
        C.due("some SPEED above the least holds: " + holds, holds > 1, true);
        C.due("SPEED is as it was", y.count(6), 10);
        int least = 0;
        for (int speed = 20; speed >= 1; speed--) {
            y.ship(0, speed);
            boolean within = true;
            for (int step = 1; step <= 20; step++) {
                within &= Math.abs(y.led(0, step, 4)) <= 16;
            }
            least = within ? speed : least;
        }
        C.due("the least of them", holds, least);
        C.due("whatever SPEED is told", y.holds(16, 20), holds);
    }

    /** Each GEAR of a DRILL leads to GEARS that are safe, and the last one to the end. */
    private static void drillsBySafe() {
        HuntingRudder x = C.with("gear a if b or c;gear b if not (a and c);gear c;safe a or b or c and not a;");
        int ways = 0;
        for (int a = 0; a < 8; a++) {
            for (int b = 0; b < 8; b++) {
                int length = x.drill(a, b, 0);
                if (length < 0) {
                    C.due("none at all", x.drill(a, b, 1), -2);
                    continue;
                }
                ways++;
                int gears = a;
                for (int k = 1; k <= length; k++) {
                    gears ^= 1 << x.drill(a, b, k);
                    C.due("safe on the way", x.safe(gears), 1);
                }
                C.due("the end", gears, b);
                C.due("behind the end", x.drill(a, b, length + 1), -1);
            }
        }
        C.due("ways were found: " + ways, ways > 8, true);
        C.due("from where it is not safe to where it is", x.drill(0, 4, 0), 1);
        C.due("never to where it is not safe", x.drill(4, 0, 0), -2);
        C.due("but to where it is already", x.drill(0, 0, 0), 0);
    }

    /** The same question of a DRILL by one TEXT and by the next. */
    private static void drillsOfTheNextText() {
        HuntingRudder x = C.with("gear a;gear b;");
        C.due("b and a", x.drill(0, 3, 0) == 2 && x.drill(0, 3, 1) == 0 && x.drill(0, 3, 2) == 1, true);
        Checks.read(x, "gear a if b;gear b;");
        C.due("b first", x.drill(0, 3, 1) == 1 && x.drill(0, 3, 2) == 0, true);
        Checks.read(x, "gear a if b;gear b if a;");
        C.due("neither", x.drill(0, 3, 0) == -2 && x.drill(0, 0, 0) == 0, true);
        Checks.read(x, "gear a if b;gear b if c;");
        C.due("with a FAULT as ahead", x.fault(0) == 4 && x.drill(0, 3, 0) == -2 && x.drill(1, 1, 1) == -1, true);
        C.due("no GEARS", x.text(0) == 0 && x.drill(0, 3, 0) == -1 && x.drill(0, 0, 0) == 0, true);
    }
}
