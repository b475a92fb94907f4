import java.util.ArrayList;
import java.util.List;

/** What can be seen of an object, as a list of answers, so that two objects can be compared. */
final class Seen {
    /** Some 110 calls make the greatest object of the tests, so that all stays within its 512. */
    private static final int CALLS_MOST = 512 - 110;
    private final HuntingRudder x;
    private final List<Long> answers = new ArrayList<>();

    private Seen(HuntingRudder x) {
        this.x = x;
    }

    /** All that can be seen; the object is used up by that. */
    static List<Long> all(HuntingRudder x) {
        Seen seen = new Seen(x);
        seen.add(x.fault(0), x.fault(1));
        seen.seeText();
        seen.seeSettings();
        seen.seeWake();
        seen.seeTrial();
        seen.seeTape();
        return seen.answers.size() <= CALLS_MOST ? seen.answers : null;
    }

    /** The TEXT with what it does, but for its FAULT. */
    static List<Long> text(HuntingRudder x) {
        Seen seen = new Seen(x);
        seen.seeText();
        return seen.answers.size() <= CALLS_MOST ? seen.answers : null;
    }

    private void add(long... some) {
        for (long answer : some) {
            answers.add(answer);
        }
    }

    private void seeText() {
        for (int what = 0; what < 5; what++) {
            add(x.count(what));
        }
        for (int row = 0; row < 6; row++) {
            for (int what : new int[] {0, 1, 2, 3, 13}) {
                add(Checks.row(x, row, what));
            }
            add(x.steer(row, 5, 20, 4));
        }
        for (int what = 0; what < 6; what++) {
            add(x.led(100, 7, what), x.led(-900, 3, what));
        }
        for (int gear = 0; gear < 6; gear++) {
            add(x.named(gear + 1 << 25), x.safe(1 << gear), x.drill(0, 1 << gear, 0), x.drill(1, 1 << gear, 1));
        }
        for (int gears : new int[] {0, 3, 5, 6, 7, 31, 63}) {
            add(x.safe(gears), x.drill(1, gears, 0), x.drill(1, gears, 1), x.drill(gears, 0, 0));
        }
    }

    private void seeSettings() {
        for (int what = 5; what < 14; what++) {
            add(x.count(what));
        }
        for (int what = 0; what < 4; what++) {
            add(x.hunt(100, what));
        }
        add(x.worst(-20, 20, 7, 9, 0), x.worst(-20, 20, 7, 9, 1), x.holds(7, 9));
    }

    private void seeWake() {
        for (int d = 0; d < 4; d += 3) {
            for (int what = 0; what < 4; what++) {
                add(x.fits(d, 100, what));
                for (int k = 0; k < 4; k++) {
                    add(x.suspect(d, 100, k, what));
                }
            }
            add(x.parts(d, 100, 20, 0), x.parts(d, 100, 20, 1));
        }
        add(x.wipe());
    }

    private void seeTrial() {
        for (int what = 0; what < 6; what++) {
            add(x.now(what));
        }
        for (int k = 0; k < 5; k++) {
            add(x.back(), x.now(0), x.now(4));
        }
        for (int k = 0; k < 4; k++) {
            add(x.order(9 - k), x.now(0));
        }
    }

    private void seeTape() {
        int held = x.feed(0x20202020, 0x20202020, 0x20202020, 0x20202020, 0x20202020);
        int length = held > 0 ? held : 600;
        add(held, x.text(length + 1), x.text(length), x.fault(0), x.fault(1), x.count(0), x.led(0, 1, 0));
    }
}
