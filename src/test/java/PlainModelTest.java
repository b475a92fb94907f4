import java.util.Random;

/**
 * Asks the class and the plain model the same, along runs of calls made by a seed. What an object
 * answers behind its 512th call is free, so each run ends ahead of that.
 */
public final class PlainModelTest {
    private static final int CALLS_MOST = 512;
    /** More than the dearest round of a run calls. */
    private static final int ROUND_MOST = 90;
    private static final String[] LAWS = {
        "wheel 0-off/10;", "wheel 0-off/4-turn*3;", "if off>0 wheel 0-30;if off<0 wheel 30;", "wheel 0-off;",
        "if off>100 or off<0-100 wheel 0-off/5;wheel 0-off-turn*8;", "if turn wheel 0-turn*9;wheel 0-off/8;",
        "if off/turn>3 wheel 0-off/6;if not (off=0) wheel 0-off/9;", "wheel off*off*off*off*off/turn;",
        "if ram<>rudder wheel ram;wheel 0-off/7-rudder/2;", "wheel (0-off)/3-wheel/2;"};
    private static final String[] WORDS = {
        "if", "wheel", "gear", "safe", "row", "or", "and", "not", "off", "turn", "ram", "rudder", "a", "b", "pump", "valves",
        "sevenls", "0", "1", "9", "10", "30", "31", "9999", "10000", "00007", "<", "<=", "=", "<>", ">=", ">", "+", "-", "*",
        "/", "(", ")", ";", "#", "A", "\t", "\u00e9"};
    private static final String[] NAMES = {"a", "b", "pump", "valves", "x", "tiller", "zz"};

    private final Random random;
    private final Checks checks;
    private HuntingRudder x;
    private PlainModel y;
    /** How many calls the object has had. */
    private int calls;

    private PlainModelTest(long seed, Checks checks) {
        this.random = new Random(seed);
        this.checks = checks;
    }

    public static void main(String[] args) {
        Checks checks = new Checks();
        int seeds = args.length > 0 ? Integer.parseInt(args[0]) : 800;
        for (int seed = 0; seed < seeds; seed++) {
            new PlainModelTest(seed, checks).textRun();
            new PlainModelTest(seed, checks).callRun();
            new PlainModelTest(seed, checks).suspectRun();
        }
        checks.end("PlainModelTest");
    }

    private int below(int n) {
        return random.nextInt(n);
    }

    private int from(int low, int high) {
        return low + below(high - low + 1);
    }

    /** Mostly within the bounds, sometimes at them, just beyond them or far off. */
    private int near(int low, int high) {
        switch (below(24)) {
            case 0:
                return low - 1;
            case 1:
                return high + 1;
            case 2:
                return below(2) == 0 ? Integer.MIN_VALUE : Integer.MAX_VALUE;
            case 3:
                return low;
            case 4:
                return high;
            default:
                return from(low, high);
        }
    }

    // ---- texts ----

    private String expression(int depth) {
        switch (depth == 0 ? 9 : below(8)) {
            case 0:
                return expression(depth - 1) + " or " + expression(depth - 1);
            case 1:
                return expression(depth - 1) + " and " + expression(depth - 1);
            case 2:
                return "not " + expression(depth - 1);
            case 3:
            case 4:
                String[] signs = {"<", "<=", "=", "<>", ">=", ">"};
                return sum(depth - 1) + signs[below(signs.length)] + sum(depth - 1);
            default:
                return sum(depth);
        }
    }

    private String sum(int depth) {
        if (depth == 0 || below(4) == 0) {
            String[] some = {"off", "turn", "wheel", "ram", "rudder", "0", "1", "7", "10", "300", "9999"};
            return some[below(some.length)];
        }
        if (below(3) == 0) {
            return "(" + expression(depth - 1) + ")";
        }
        String[] signs = {"+", "-", "*", "/"};
        return sum(depth - 1) + signs[below(signs.length)] + sum(depth - 1);
    }

    /** A B over the first gears of NAMES; words that are none of them once in a while. */
    private String condition(int depth, int gears) {
        if (depth == 0 || below(3) == 0) {
            return (below(4) == 0 ? "not " : "") + NAMES[below(40) == 0 ? below(NAMES.length) : below(gears)];
        }
        String inside = condition(depth - 1, gears) + (below(3) == 0 ? " and " : " or ") + condition(depth - 1, gears);
        return below(3) == 0 ? "not (" + inside + ")" : below(3) == 0 ? "(" + inside + ")" : inside;
    }

    private String rows(int n) {
        StringBuilder s = new StringBuilder();
        for (int k = 0; k < n; k++) {
            s.append("row ").append(from(1, 9));
            for (int i = from(1, below(9) == 0 ? 13 : 5); i > 0; i--) {
                int order = from(-30, 30);
                s.append(order < 0 ? " - " : " ").append(Math.abs(order));
            }
            s.append(";");
        }
        return s.toString();
    }

    private String gears() {
        StringBuilder s = new StringBuilder();
        int gears = below(12) == 0 ? 7 : from(2, 6);
        String safe = below(3) > 0 ? "safe " + condition(2, gears) + ";" : "";
        if (below(2) == 0) {
            s.append(safe);
        }
        for (int k = 0; k < gears; k++) {
            s.append("gear ").append(NAMES[k]).append(below(2) == 0 ? " if " + condition(2, gears) : "").append(";\n");
        }
        if (s.indexOf("safe") < 0) {
            s.append(safe);
        }
        return s.toString();
    }

    private String goodText() {
        StringBuilder s = new StringBuilder();
        if (below(2) == 0) {
            s.append(gears());
        }
        for (int k = below(3); k > 0; k--) {
            s.append("if ").append(expression(2)).append(" wheel ").append(expression(3)).append(";");
        }
        s.append(LAWS[below(LAWS.length)]);
        s.append(rows(below(5)));
        return s.toString();
    }

    private String spoiled(String text) {
        StringBuilder s = new StringBuilder(text);
        for (int k = from(1, 2); k > 0 && s.length() > 0; k--) {
            int at = below(s.length());
            switch (below(4)) {
                case 0:
                    s.deleteCharAt(at);
                    break;
                case 1:
                    s.insert(at, WORDS[below(WORDS.length)]);
                    break;
                case 2:
                    s.insert(at, " " + WORDS[below(WORDS.length)] + " ");
                    break;
                default:
                    s.setLength(at);
                    break;
            }
        }
        return s.toString();
    }

    private String strangeText() {
        StringBuilder s = new StringBuilder();
        switch (below(5)) {
            case 0:
                for (int k = from(1, 12); k > 0; k--) {
                    s.append(WORDS[below(WORDS.length)]).append(below(2) == 0 ? " " : "");
                }
                break;
            case 1:
                s.append("wheel ").append("(".repeat(from(7, 10))).append("off").append(")".repeat(from(7, 10))).append(";");
                break;
            case 2:
                s.append("wheel 1").append("+1".repeat(from(29, 33))).append(";wheel off;");
                break;
            case 3:
                s.append("gear a if ").append("not ".repeat(from(58, 66))).append("a;");
                break;
            default:
                for (int k = from(10, 14); k > 0; k--) {
                    s.append(below(2) == 0 ? "if off wheel 1;" : "wheel turn;");
                }
                break;
        }
        return s.toString();
    }

    private void read(String text) {
        String cut = text.length() > 600 ? text.substring(0, 600) : text;
        Checks.feed(x, cut);
        calls += (cut.length() + 19) / 20;
        y.feedText(cut);
        int n = below(40) == 0 ? near(0, 600) : cut.length();
        ask("text(" + n + ") of \"" + cut + "\"", x.text(n), y.text(n));
        ask("fault(0) of \"" + cut + "\"", x.fault(0), y.fault(0));
        ask("fault(1) of \"" + cut + "\"", x.fault(1), y.fault(1));
    }

    private void ask(String call, long got, long want) {
        calls++;
        checks.due(call, got, want);
    }

    private void begin() {
        x = new HuntingRudder();
        y = new PlainModel();
        calls = 0;
    }

    private boolean hasRoom() {
        return calls + ROUND_MOST <= CALLS_MOST;
    }

    private void end() {
        checks.due("calls of one object: " + calls, calls <= CALLS_MOST, true);
    }

    /** Many texts, good and bad, and what can be seen of them cheaply. */
    private void textRun() {
        begin();
        while (hasRoom()) {
            String text = below(4) == 0 ? strangeText() : goodText();
            read(below(2) == 0 ? spoiled(text) : text);
            for (int what = -1; what < 6; what++) {
                ask("count(" + what + ") behind \"" + text + "\"", x.count(what), y.count(what));
            }
            int off = from(-1800, 1799);
            ask("led(" + off + ", 9, 5) behind \"" + text + "\"", x.led(off, 9, 5), y.led(off, 9, 5));
            int gears = below(64);
            ask("safe(" + gears + ") behind \"" + text + "\"", x.safe(gears), y.safe(gears));
        }
        end();
    }

    // ---- calls ----

    private void callRun() {
        begin();
        read(goodText());
        while (hasRoom()) {
            switch (below(16)) {
                case 0:
                    read(below(4) == 0 ? spoiled(goodText()) : goodText());
                    break;
                case 1:
                    askSettings();
                    break;
                case 2:
                case 3:
                    askLed();
                    break;
                case 4:
                    askHunt();
                    break;
                case 5:
                    askWake();
                    askFits();
                    break;
                case 6:
                    askFits();
                    break;
                case 7:
                case 8:
                case 9:
                    askGears();
                    break;
                case 10:
                    askRow();
                    break;
                default:
                    askTrial();
                    break;
            }
            int what = near(0, 13);
            ask("count(" + what + ")", x.count(what), y.count(what));
        }
        end();
    }

    /** MARKS and distances by which just one or two PARTS must fail, and many SUSPECTS fit. */
    private void suspectRun() {
        begin();
        read(LAWS[below(LAWS.length)] + rows(from(2, 6)));
        askSettings();
        int off = from(-300, 300);
        int step = from(5, 60);
        int seen = below(4) > 0 ? seenOfTwo(off, step) : from(-1800, 1799);
        ask("mark", x.mark(step, seen), y.mark(step, seen));
        int none = Math.abs(y.led(off, step, 4) - seen);
        int one = nearestByOne(off, step, seen);
        askAllOf(Math.max(0, Math.min(none, one + below(4)) - below(2)), off);
        askAllOf(Math.max(0, one - 1), off);
        end();
    }

    /** OFF behind a STEP with two PARTS that have failed, at most. */
    private int seenOfTwo(int off, int step) {
        int[] were = {y.count(9), y.count(10), y.count(11), y.count(12), y.count(13)};
        y.part(below(5), from(0, 9));
        y.part(below(5), from(0, 9));
        int seen = y.led(off, step, 4);
        for (int part = 0; part < 5; part++) {
            y.part(part, were[part]);
        }
        return seen;
    }

    /** How near one PART that fails can bring OFF behind a STEP to what was seen. */
    private int nearestByOne(int off, int step, int seen) {
        int nearest = Math.abs(y.led(off, step, 4) - seen);
        for (int part = 0; part < 5; part++) {
            int was = y.count(9 + part);
            for (int value = 0; value <= 9; value++) {
                if (y.part(part, value)) {
                    nearest = Math.min(nearest, Math.abs(y.led(off, step, 4) - seen));
                }
            }
            y.part(part, was);
        }
        return nearest;
    }

    /** All of the SUSPECTS, or some forty of them with the first and the last, where there are more. */
    private void askAllOf(int d, int off) {
        for (int what = 0; what < 4; what++) {
            ask("fits(" + d + ", " + off + ", " + what + ")", x.fits(d, off, what), y.fits(d, off, what));
        }
        int suspects = y.fits(d, off, 1);
        int by = suspects / 40 + 1;
        for (int k = 0; k <= suspects; k += k + by <= suspects - 1 ? by : 1) {
            for (int what = 0; what < 4; what++) {
                ask("suspect(" + d + ", " + off + ", " + k + ", " + what + ")", x.suspect(d, off, k, what), y.suspect(d, off, k, what));
            }
        }
        for (int n : new int[] {1, 3, from(4, 12), from(13, 60)}) {
            ask("parts(" + d + ", " + off + ", " + n + ", 0)", x.parts(d, off, n, 0), y.parts(d, off, n, 0));
            ask("parts(" + d + ", " + off + ", " + n + ", 1)", x.parts(d, off, n, 1), y.parts(d, off, n, 1));
        }
    }

    private void askSettings() {
        int part = near(0, 4);
        int value = near(0, 4);
        ask("part(" + part + ", " + value + ")", x.part(part, value) ? 1 : 0, y.part(part, value) ? 1 : 0);
        int what = near(0, 2);
        int much = what == 2 ? near(-9, 9) : near(1, 9 + 11 * below(2));
        ask("ship(" + what + ", " + much + ")", x.ship(what, much) ? 1 : 0, y.ship(what, much) ? 1 : 0);
    }

    private void askLed() {
        int off = near(-1800, 1799);
        int n = below(10) == 0 ? near(0, 1500) : below(60);
        int what = near(0, 5);
        int row = near(0, Math.max(0, y.count(2) - 1));
        ask("led(" + off + ", " + n + ", " + what + ")", x.led(off, n, what), y.led(off, n, what));
        ask("steer(" + row + ", " + off + ", " + n + ", " + what + ")", x.steer(row, off, n, what), y.steer(row, off, n, what));
    }

    private void askHunt() {
        int off = below(2) == 0 ? near(-1800, 1799) : from(-60, 60);
        for (int what = -1; what < 5; what++) {
            ask("hunt(" + off + ", " + what + ")", x.hunt(off, what), y.hunt(off, what));
        }
        int a = near(-1800, 1799);
        int b = below(9) == 0 ? a - 1 : near(Math.min(1799, Math.max(-1800, a)), 1799);
        int c = near(below(2) == 0 ? 300 : 1500, 3600);
        int n = near(0, 60 + 140 * below(2));
        for (int what = 0; what < 2; what++) {
            ask("worst(" + a + ", " + b + ", " + c + ", " + n + ", " + what + ")", x.worst(a, b, c, n, what), y.worst(a, b, c, n, what));
        }
        int bound = below(2) == 0 ? near(0, 1800) : below(50);
        int steps = near(1, 40 + 460 * below(2));
        ask("holds(" + bound + ", " + steps + ")", x.holds(bound, steps), y.holds(bound, steps));
    }

    /** MARKS of a WAKE from OFF 100 with one or two PARTS that have failed, or any MARK. */
    private void askWake() {
        if (below(4) == 0) {
            int step = near(1, 200);
            int off = near(-1800, 1799);
            ask("mark(" + step + ", " + off + ")", x.mark(step, off), y.mark(step, off));
            return;
        }
        ask("wipe()", x.wipe(), y.wipe());
        int[] were = {y.count(9), y.count(10), y.count(11), y.count(12), y.count(13)};
        int[] offs = new int[201];
        for (int fails = below(3); fails > 0; fails--) {
            y.part(below(5), from(0, 8));
        }
        int most = below(9) == 0 ? 200 : 40;
        for (int step = 1; step <= most; step++) {
            offs[step] = y.led(100, step, 4);
        }
        for (int part = 0; part < 5; part++) {
            y.part(part, were[part]);
        }
        int step = 0;
        for (int k = below(9) == 0 ? 14 : from(1, 4); k > 0 && step < most; k--) {
            step = from(step + 1, Math.min(most, step + 1 + most / 4));
            ask("mark(" + step + ", " + offs[step] + ")", x.mark(step, offs[step]), y.mark(step, offs[step]));
        }
    }

    private void askFits() {
        int off = below(9) == 0 ? near(-1800, 1799) : 100;
        int d = below(5) == 0 ? near(0, 40 + 3560 * below(2)) : below(2);
        for (int what = 0; what < 4; what++) {
            ask("fits(" + d + ", " + off + ", " + what + ")", x.fits(d, off, what), y.fits(d, off, what));
        }
        int suspects = Math.max(1, y.fits(d, off, 1));
        int k = near(0, suspects);
        for (int what = -1; what < 5; what++) {
            ask("suspect(" + d + ", " + off + ", " + k + ", " + what + ")", x.suspect(d, off, k, what), y.suspect(d, off, k, what));
        }
        int n = near(1, below(4) == 0 ? 200 : 12);
        for (int what = 0; what < 3; what++) {
            ask("parts(" + d + ", " + off + ", " + n + ", " + what + ")", x.parts(d, off, n, what), y.parts(d, off, n, what));
        }
    }

    private void askGears() {
        int most = (1 << Math.max(0, y.count(1))) - 1;
        int gears = near(0, most);
        ask("safe(" + gears + ")", x.safe(gears), y.safe(gears));
        int a = near(0, most);
        int b = near(0, most);
        for (int what = -1; what < 9; what++) {
            ask("drill(" + a + ", " + b + ", " + what + ")", x.drill(a, b, what), y.drill(a, b, what));
        }
        int letters = below(5) == 0 ? near(0, 1 << 30) : Checks.letters(NAMES[below(NAMES.length)]);
        ask("named(" + letters + ")", x.named(letters), y.named(letters));
    }

    private void askRow() {
        int row = near(0, Math.max(0, y.count(2) - 1));
        int what = near(0, 6);
        ask("row(" + row + ", " + what + ")", Checks.row(x, row, what), y.row(row, what));
    }

    private void askTrial() {
        if (below(30) == 0) {
            int off = near(-1800, 1799);
            ask("begin(" + off + ")", x.begin(off) ? 1 : 0, y.begin(off) ? 1 : 0);
        }
        int times = below(12) == 0 ? 60 : 3;
        for (int k = 0; k < times; k++) {
            int order = near(-30, 30);
            ask("order(" + order + ")", x.order(order), y.order(order));
        }
        if (below(2) == 0) {
            ask("back()", x.back(), y.back());
        }
        for (int what = -1; what < 7; what++) {
            ask("now(" + what + ")", x.now(what), y.now(what));
        }
    }
}
