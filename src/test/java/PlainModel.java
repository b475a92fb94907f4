import java.util.ArrayList;
import java.util.Arrays;
import java.util.HashMap;
import java.util.HashSet;
import java.util.List;
import java.util.Map;

/**
 * The document told once more, as plainly as it can be: trees, lists and maps, everything worked out
 * anew at each question. It has the face of the class, and the tests ask both the same.
 */
final class PlainModel {
    static final int MIN = Integer.MIN_VALUE;
    static final int ROW_INDEX = 1_000_001;
    static final int ROW_ELEMENT = 1_000_002;
    private static final List<String> LANGUAGE = List.of("if", "wheel", "gear", "safe", "row", "or", "and", "not", "off", "turn", "ram", "rudder");
    private static final int[] LOW = {0, 0, 1, 0, 0};
    private static final int[] HIGH = {8, 8, 9, 3, 2};

    private static final class Fault extends Exception {
        private static final long serialVersionUID = 1;
        final int kind;
        final int place;

        Fault(int kind, int place) {
            this.kind = kind;
            this.place = place;
        }
    }

    private static final class WorkError extends Exception {
        private static final long serialVersionUID = 1;
    }

    private record Token(String s, int place) {
        boolean isNumber() {
            return !s.isEmpty() && Character.isDigit(s.charAt(0));
        }

        boolean isWord() {
            return !s.isEmpty() && s.charAt(0) >= 'a' && s.charAt(0) <= 'z';
        }
    }

    private record Tree(String sign, Tree left, Tree right) {
    }

    private record WheelLine(Tree condition, Tree order) {
    }

    private static final class Parsed {
        int lines;
        int eKnots;
        int bKnots;
        final List<WheelLine> wheel = new ArrayList<>();
        final List<String> gears = new ArrayList<>();
        final List<Tree> gearIfs = new ArrayList<>();
        boolean safeTold;
        Tree safe;
        final List<List<Integer>> rows = new ArrayList<>();
        final List<Token> gearWords = new ArrayList<>();
    }

    private final List<Integer> tape = new ArrayList<>();
    private Parsed text = new Parsed();
    private int fault = 0;
    private int faultPlace = -1;
    private final int[] parts = {0, 0, 4, 0, 0};
    private final int[] ship = {10, 3, 0};
    private final List<int[]> marks = new ArrayList<>();
    private List<int[]> trial = null;
    private List<Object> question = List.of();
    private List<int[]> answer = List.of();

    // ---- the text ----

    int feed(int... numbers) {
        if (tape.size() + 20 > 600) {
            return -1;
        }
        for (int number : numbers) {
            for (int k = 3; k >= 0; k--) {
                tape.add(number >> 8 * k & 255);
            }
        }
        return tape.size();
    }

    /** Feeds the signs of a text, filled up with blanks. */
    void feedText(String signs) {
        for (int at = 0; at < signs.length(); at += 20) {
            int[] numbers = new int[5];
            for (int k = 0; k < 20; k++) {
                int sign = at + k < signs.length() ? signs.charAt(at + k) & 255 : ' ';
                numbers[k / 4] = numbers[k / 4] << 8 | sign;
            }
            feed(numbers);
        }
    }

    int text(int n) {
        if (n < 0 || n > tape.size()) {
            return -2;
        }
        List<Integer> bytes = new ArrayList<>(tape.subList(0, n));
        tape.clear();
        try {
            text = parse(bytes);
            fault = 0;
            faultPlace = -1;
            return text.lines;
        } catch (Fault f) {
            fault = f.kind;
            faultPlace = f.place;
            return -1;
        }
    }

    int fault(int what) {
        return what == 0 ? fault : what == 1 ? faultPlace : -1;
    }

    private List<Token> tokens;
    private int at;
    private Parsed parsed;

    /** A TOKEN that is none stands in the list as "?", the end as "". */
    private static List<Token> split(List<Integer> bytes) {
        List<Token> all = new ArrayList<>();
        StringBuilder s = new StringBuilder();
        for (int b : bytes) {
            s.append((char) b);
        }
        java.util.regex.Matcher m = java.util.regex.Pattern.compile("[a-z]+|[0-9]+|<=|<>|>=|[-+*/<>=();]|[ \\n]+|.", java.util.regex.Pattern.DOTALL).matcher(s);
        while (m.find()) {
            String t = m.group();
            if (t.matches("[ \\n]+")) {
                continue;
            }
            boolean known = t.matches("[a-z]{1,6}|[0-9]+|<=|<>|>=|[-+*/<>=();]");
            all.add(new Token(known ? t : "?", m.start()));
        }
        all.add(new Token("", bytes.size()));
        return all;
    }

    private Token here() {
        return tokens.get(at);
    }

    private Fault cannotStand() {
        return new Fault(1, here().place());
    }

    private void take(String s) throws Fault {
        if (!here().s().equals(s)) {
            throw cannotStand();
        }
        at++;
    }

    private boolean takes(String... some) {
        return Arrays.asList(some).contains(here().s());
    }

    private Parsed parse(List<Integer> bytes) throws Fault {
        tokens = split(bytes);
        at = 0;
        parsed = new Parsed();
        while (!here().s().isEmpty()) {
            line();
            take(";");
            parsed.lines++;
        }
        for (Token w : parsed.gearWords) {
            if (!parsed.gears.contains(w.s())) {
                throw new Fault(4, w.place());
            }
        }
        return parsed;
    }

    private void line() throws Fault {
        int place = here().place();
        if (takes("if", "wheel")) {
            if (parsed.wheel.size() == 12) {
                throw new Fault(2, place);
            }
            Tree condition = null;
            if (takes("if")) {
                at++;
                condition = or(true, 0);
            }
            take("wheel");
            parsed.wheel.add(new WheelLine(condition, or(true, 0)));
        } else if (takes("gear")) {
            if (parsed.gears.size() == 6) {
                throw new Fault(2, place);
            }
            at++;
            gear();
        } else if (takes("safe")) {
            if (parsed.safeTold) {
                throw new Fault(3, place);
            }
            parsed.safeTold = true;
            at++;
            parsed.safe = or(false, 0);
        } else if (takes("row")) {
            if (parsed.rows.size() == 6) {
                throw new Fault(2, place);
            }
            at++;
            rowLine();
        } else {
            throw cannotStand();
        }
    }

    private void gear() throws Fault {
        Token w = here();
        if (!w.isWord() || LANGUAGE.contains(w.s())) {
            throw cannotStand();
        }
        if (parsed.gears.contains(w.s())) {
            throw new Fault(3, w.place());
        }
        parsed.gears.add(w.s());
        at++;
        Tree condition = null;
        if (takes("if")) {
            at++;
            condition = or(false, 0);
        }
        parsed.gearIfs.add(condition);
    }

    private int number(int low, int high) throws Fault {
        if (!here().isNumber()) {
            throw cannotStand();
        }
        java.math.BigInteger n = new java.math.BigInteger(here().s());
        if (n.compareTo(java.math.BigInteger.valueOf(low)) < 0 || n.compareTo(java.math.BigInteger.valueOf(high)) > 0) {
            throw new Fault(2, here().place());
        }
        at++;
        return n.intValue();
    }

    private void rowLine() throws Fault {
        List<Integer> row = new ArrayList<>();
        parsed.rows.add(row);
        row.add(number(1, 9));
        do {
            int sign = 1;
            if (takes("-")) {
                at++;
                sign = -1;
            }
            if (here().isNumber() && row.size() == 13) {
                throw new Fault(2, here().place());
            }
            row.add(sign * number(0, 30));
        } while (!takes(";"));
    }

    private void knot(boolean e, int place) throws Fault {
        if (e && ++parsed.eKnots > 64 || !e && ++parsed.bKnots > 64) {
            throw new Fault(2, place);
        }
    }

    private Tree or(boolean e, int depth) throws Fault {
        Tree left = and(e, depth);
        while (takes("or")) {
            knot(e, here().place());
            at++;
            left = new Tree("or", left, and(e, depth));
        }
        return left;
    }

    private Tree and(boolean e, int depth) throws Fault {
        Tree left = not(e, depth);
        while (takes("and")) {
            knot(e, here().place());
            at++;
            left = new Tree("and", left, not(e, depth));
        }
        return left;
    }

    private Tree not(boolean e, int depth) throws Fault {
        if (takes("not")) {
            knot(e, here().place());
            at++;
            return new Tree("not", not(e, depth), null);
        }
        return e ? comparison(depth) : operand(false, depth);
    }

    private Tree comparison(int depth) throws Fault {
        Tree left = sum(depth);
        if (takes("<", "<=", "=", "<>", ">=", ">")) {
            String sign = here().s();
            knot(true, here().place());
            at++;
            left = new Tree(sign, left, sum(depth));
        }
        return left;
    }

    private Tree sum(int depth) throws Fault {
        Tree left = term(depth);
        while (takes("+", "-")) {
            String sign = here().s();
            knot(true, here().place());
            at++;
            left = new Tree(sign, left, term(depth));
        }
        return left;
    }

    private Tree term(int depth) throws Fault {
        Tree left = operand(true, depth);
        while (takes("*", "/")) {
            String sign = here().s();
            knot(true, here().place());
            at++;
            left = new Tree(sign, left, operand(true, depth));
        }
        return left;
    }

    private Tree operand(boolean e, int depth) throws Fault {
        Token t = here();
        if (takes("(")) {
            if (depth == 8) {
                throw new Fault(2, t.place());
            }
            at++;
            Tree inside = or(e, depth + 1);
            take(")");
            return inside;
        }
        if (e && t.isNumber()) {
            Tree n = new Tree(String.valueOf(number(0, 9999)), null, null);
            knot(true, t.place());
            return n;
        }
        if (e ? takes("off", "turn", "wheel", "ram", "rudder") : t.isWord() && !LANGUAGE.contains(t.s())) {
            knot(e, t.place());
            at++;
            if (!e) {
                parsed.gearWords.add(t);
            }
            return new Tree(t.s(), null, null);
        }
        throw cannotStand();
    }

    // ---- working out; a STATE is {wheel, ram, rudder, turn, off, latest, second, third} ----

    private static long value(Tree t, int[] s) throws WorkError {
        if (t.left() == null) {
            return switch (t.sign()) {
                case "wheel" -> s[0];
                case "ram" -> s[1];
                case "rudder" -> s[2];
                case "turn" -> s[3];
                case "off" -> s[4];
                default -> Long.parseLong(t.sign());
            };
        }
        long a = value(t.left(), s);
        long b = t.right() == null ? 0 : value(t.right(), s);
        if (t.sign().equals("/") && b == 0) {
            throw new WorkError();
        }
        java.math.BigInteger x = java.math.BigInteger.valueOf(a);
        java.math.BigInteger y = java.math.BigInteger.valueOf(b);
        java.math.BigInteger v = switch (t.sign()) {
            case "+" -> x.add(y);
            case "-" -> x.subtract(y);
            case "*" -> x.multiply(y);
            case "/" -> x.divide(y);
            default -> java.math.BigInteger.valueOf(holds(t.sign(), a, b) ? 1 : 0);
        };
        if (v.abs().compareTo(java.math.BigInteger.TEN.pow(12)) > 0) {
            throw new WorkError();
        }
        return v.longValueExact();
    }

    private static boolean holds(String sign, long a, long b) {
        return switch (sign) {
            case "<" -> a < b;
            case "<=" -> a <= b;
            case "=" -> a == b;
            case "<>" -> a != b;
            case ">=" -> a >= b;
            case ">" -> a > b;
            case "and" -> a != 0 && b != 0;
            case "or" -> a != 0 || b != 0;
            default -> a == 0;
        };
    }

    private boolean holds(Tree b, int gears) {
        if (b == null) {
            return true;
        }
        return switch (b.sign()) {
            case "and" -> holds(b.left(), gears) && holds(b.right(), gears);
            case "or" -> holds(b.left(), gears) || holds(b.right(), gears);
            case "not" -> !holds(b.left(), gears);
            default -> (gears >> text.gears.indexOf(b.sign()) & 1) == 1;
        };
    }

    private int orderByText(int[] s) {
        for (WheelLine line : text.wheel) {
            boolean taken = true;
            try {
                taken = line.condition() == null || value(line.condition(), s) != 0;
            } catch (WorkError e) {
                taken = false;
            }
            if (taken) {
                try {
                    return (int) Math.max(-30, Math.min(30, value(line.order(), s)));
                } catch (WorkError e) {
                    return 0;
                }
            }
        }
        return 0;
    }

    private int orderByRow(int row, int step) {
        List<Integer> all = new ArrayList<>();
        List<Integer> told = text.rows.get(row);
        for (int k = 1; k < told.size(); k++) {
            for (int i = 0; i < told.get(0); i++) {
                all.add(told.get(k));
            }
        }
        return all.get(Math.min(step, all.size()) - 1);
    }

    private static int[] start(int off) {
        return new int[] {0, 0, 0, 0, off, 0, 0, 0};
    }

    private static int[] step(int[] s, int order, int[] p, int[] by) {
        int[] t = s.clone();
        int[] orders = {order, s[5], s[6], s[7]};
        t[0] = orders[p[3]];
        int d = t[0] - t[1];
        if (Math.abs(d) > p[0]) {
            t[1] += Integer.signum(d) * Math.min(6, Math.abs(d) - p[0]);
        }
        d = t[1] - t[2];
        if (Math.abs(d) > p[1] && !(d > 0 && p[4] == 1) && !(d < 0 && p[4] == 2)) {
            t[2] += Integer.signum(d) * Math.min(p[2], Math.abs(d) - p[1]);
        }
        t[3] += (t[2] * by[0] / 10 - t[3]) / by[1];
        t[4] = Math.floorMod(t[4] + t[3] + by[2] + 1800, 3600) - 1800;
        t[5] = order;
        t[6] = s[5];
        t[7] = s[6];
        return t;
    }

    /** The STATES behind 0 .. n STEPS by the TEXT (row -1) or a ROW. */
    private List<int[]> run(int row, int off, int n, int[] p, int[] by) {
        List<int[]> all = new ArrayList<>();
        all.add(start(off));
        for (int k = 1; k <= n; k++) {
            int[] s = all.get(k - 1);
            all.add(step(s, row < 0 ? orderByText(s) : orderByRow(row, k), p, by));
        }
        return all;
    }

    private static boolean isOff(int off) {
        return off >= -1800 && off <= 1799;
    }

    // ---- the calls ----

    boolean part(int part, int value) {
        if (part < 0 || part > 4 || value < LOW[part] || value > HIGH[part]) {
            return false;
        }
        parts[part] = value;
        return true;
    }

    boolean ship(int what, int value) {
        int[] low = {1, 1, -9};
        int[] high = {20, 9, 9};
        if (what < 0 || what > 2 || value < low[what] || value > high[what]) {
            return false;
        }
        ship[what] = value;
        return true;
    }

    int row(int row, int what) {
        if (row < 0 || row >= text.rows.size()) {
            return ROW_INDEX;
        }
        List<Integer> r = text.rows.get(row);
        if (what < 0 || what > r.size()) {
            return ROW_ELEMENT;
        }
        return what == 0 ? r.get(0) : what == 1 ? r.size() - 1 : r.get(what - 1);
    }

    int led(int off, int n, int what) {
        if (!isOff(off) || n < 0 || n > 1500 || what < 0 || what > 5) {
            return MIN;
        }
        return run(-1, off, n, parts, ship).get(n)[what];
    }

    int steer(int row, int off, int n, int what) {
        if (row < 0 || row >= text.rows.size() || !isOff(off) || n < 0 || n > 1500 || what < 0 || what > 5) {
            return MIN;
        }
        return run(row, off, n, parts, ship).get(n)[what];
    }

    int hunt(int off, int what) {
        if (!isOff(off) || what < 0 || what > 3) {
            return -1;
        }
        List<int[]> all = run(-1, off, 1500, parts, ship);
        Map<String, Integer> seen = new HashMap<>();
        for (int k = 0; k <= 1500; k++) {
            Integer first = seen.putIfAbsent(Arrays.toString(all.get(k)), k);
            if (first != null) {
                int period = k - first;
                return what == 0 ? period == 1 ? 1 : 2 : what == 1 ? first : what == 2 ? period : swing(all.subList(first, k));
            }
        }
        return what == 0 ? 3 : what < 3 ? -1 : swing(all);
    }

    private static int swing(List<int[]> states) {
        int low = states.stream().mapToInt(s -> s[4]).min().getAsInt();
        return states.stream().mapToInt(s -> s[4]).max().getAsInt() - low;
    }

    private int far(int off, int n, int[] by) {
        return run(-1, off, n, parts, by).stream().mapToInt(s -> Math.abs(s[4])).max().getAsInt();
    }

    int worst(int a, int b, int c, int n, int what) {
        if (!isOff(a) || !isOff(b) || a > b || c < 1 || c > 3600 || n < 0 || n > 200 || what < 0 || what > 1) {
            return -1;
        }
        int most = -1;
        int from = 0;
        for (int off = a; off <= b; off += c) {
            int far = far(off, n, ship);
            if (far > most) {
                most = far;
                from = off;
            }
        }
        return what == 0 ? most : from;
    }

    int holds(int bound, int n) {
        if (bound < 0 || bound > 1800 || n < 1 || n > 500) {
            return -1;
        }
        for (int speed = 1; speed <= 20; speed++) {
            if (far(0, n, new int[] {speed, ship[1], ship[2]}) <= bound) {
                return speed;
            }
        }
        return -2;
    }

    int mark(int step, int off) {
        if (step < 1 || step > 200 || !isOff(off) || marks.size() == 12) {
            return -1;
        }
        if (!marks.isEmpty() && marks.get(marks.size() - 1)[0] >= step) {
            return -1;
        }
        marks.add(new int[] {step, off});
        return marks.size();
    }

    int wipe() {
        int were = marks.size();
        marks.clear();
        return were;
    }

    /** Kept for the latest question alone, by all that it depends on: it is the dearest one. */
    private List<int[]> suspects(int d, int off) {
        List<Object> asked = new ArrayList<>(List.of(text, d, off, Arrays.toString(parts), Arrays.toString(ship)));
        for (int[] mark : marks) {
            asked.add(Arrays.toString(mark));
        }
        if (!asked.equals(question)) {
            question = asked;
            answer = searchSuspects(d, off);
        }
        return answer;
    }

    /** The SUSPECTS as {part, value, part, value}; asked is all with so many PARTS as the number says. */
    private List<int[]> searchSuspects(int d, int off) {
        for (int fewest = 0; fewest <= 2; fewest++) {
            List<int[]> found = new ArrayList<>();
            for (int p = 0; p < 5; p++) {
                for (int q = 0; q < 5; q++) {
                    for (int v = 0; v <= 9; v++) {
                        for (int w = 0; w <= 9; w++) {
                            int[] suspect = {-1, -1, -1, -1};
                            boolean asked = switch (fewest) {
                                case 0 -> p == 0 && q == 0 && v == 0 && w == 0;
                                case 1 -> q == 0 && w == 0 && other(p, v);
                                default -> p < q && other(p, v) && other(q, w);
                            };
                            if (fewest > 0) {
                                suspect[0] = p;
                                suspect[1] = v;
                            }
                            if (fewest > 1) {
                                suspect[2] = q;
                                suspect[3] = w;
                            }
                            if (asked && matches(suspect, d, off)) {
                                found.add(suspect);
                            }
                        }
                    }
                }
            }
            if (!found.isEmpty()) {
                return found;
            }
        }
        return List.of();
    }

    private boolean other(int part, int value) {
        return value >= LOW[part] && value <= HIGH[part] && value != parts[part];
    }

    private int[] partsOf(int[] suspect) {
        int[] p = parts.clone();
        for (int k = 0; k < 4; k += 2) {
            if (suspect[k] >= 0) {
                p[suspect[k]] = suspect[k + 1];
            }
        }
        return p;
    }

    private boolean matches(int[] suspect, int d, int off) {
        int last = marks.isEmpty() ? 0 : marks.get(marks.size() - 1)[0];
        List<int[]> all = run(-1, off, last, partsOf(suspect), ship);
        for (int[] mark : marks) {
            if (Math.abs(all.get(mark[0])[4] - mark[1]) > d) {
                return false;
            }
        }
        return true;
    }

    int fits(int d, int off, int what) {
        if (d < 0 || d > 3600 || !isOff(off) || what < 0 || what > 3) {
            return -1;
        }
        List<int[]> all = suspects(d, off);
        if (all.isEmpty()) {
            return what == 0 ? -2 : 0;
        }
        int some = 0;
        int every = 31;
        for (int[] s : all) {
            int bits = (s[0] >= 0 ? 1 << s[0] : 0) | (s[2] >= 0 ? 1 << s[2] : 0);
            some |= bits;
            every &= bits;
        }
        int fewest = all.get(0)[0] < 0 ? 0 : all.get(0)[2] < 0 ? 1 : 2;
        return new int[] {fewest, all.size(), some, every}[what];
    }

    int suspect(int d, int off, int k, int what) {
        if (d < 0 || d > 3600 || !isOff(off) || what < 0 || what > 3) {
            return -1;
        }
        List<int[]> all = suspects(d, off);
        return k >= 0 && k < all.size() ? all.get(k)[what] : -1;
    }

    int parts(int d, int off, int n, int what) {
        if (d < 0 || d > 3600 || !isOff(off) || n < 1 || n > 200 || what < 0 || what > 1) {
            return -1;
        }
        List<int[]> all = suspects(d, off);
        if (all.size() < 2) {
            return -1;
        }
        int best = -1;
        int least = -1;
        for (int row = 0; row < text.rows.size(); row++) {
            Map<String, Integer> sizes = new HashMap<>();
            for (int[] s : all) {
                StringBuilder offs = new StringBuilder();
                for (int[] state : run(row, 0, n, partsOf(s), ship)) {
                    offs.append(state[4]).append(' ');
                }
                sizes.merge(offs.toString(), 1, Integer::sum);
            }
            int greatest = java.util.Collections.max(sizes.values());
            if (best < 0 || greatest < least) {
                best = row;
                least = greatest;
            }
        }
        return what == 0 ? best : least;
    }

    int named(int letters) {
        for (int k = 0; k < text.gears.size(); k++) {
            if (Checks.letters(text.gears.get(k)) == letters) {
                return k;
            }
        }
        return -1;
    }

    private boolean areGears(int bits) {
        return bits >= 0 && bits < 1 << text.gears.size();
    }

    int safe(int gears) {
        return areGears(gears) ? holds(text.safe, gears) ? 1 : 0 : -1;
    }

    int drill(int a, int b, int what) {
        if (!areGears(a) || !areGears(b) || what < 0) {
            return -1;
        }
        List<List<Integer>> ways = new ArrayList<>();
        List<Integer> ends = new ArrayList<>();
        HashSet<Integer> met = new HashSet<>();
        ways.add(List.of());
        ends.add(a);
        met.add(a);
        // Breadth first, GEARS from the least on: the first way to a set is the first of the fewest.
        for (int k = 0; k < ways.size(); k++) {
            if (ends.get(k) == b) {
                List<Integer> way = ways.get(k);
                return what == 0 ? way.size() : what <= way.size() ? way.get(what - 1) : -1;
            }
            for (int gear = 0; gear < text.gears.size(); gear++) {
                int then = ends.get(k) ^ 1 << gear;
                if (holds(text.gearIfs.get(gear), ends.get(k)) && holds(text.safe, then) && met.add(then)) {
                    List<Integer> way = new ArrayList<>(ways.get(k));
                    way.add(gear);
                    ways.add(way);
                    ends.add(then);
                }
            }
        }
        return -2;
    }

    boolean begin(int off) {
        if (!isOff(off)) {
            return false;
        }
        trial = new ArrayList<>();
        trial.add(start(off));
        return true;
    }

    int order(int order) {
        if (trial == null || order < -30 || order > 30 || trial.size() > 100) {
            return MIN;
        }
        trial.add(step(trial.get(trial.size() - 1), order, parts, ship));
        return now(4);
    }

    int back() {
        if (trial == null || trial.size() < 2) {
            return -1;
        }
        trial.remove(trial.size() - 1);
        return trial.size() - 1;
    }

    int now(int what) {
        if (trial == null || what < 0 || what > 5) {
            return MIN;
        }
        return what == 5 ? trial.size() - 1 : trial.get(trial.size() - 1)[what];
    }

    int count(int what) {
        int[] all = {text.wheel.size(), text.gears.size(), text.rows.size(), text.eKnots, text.bKnots, marks.size(),
            ship[0], ship[1], ship[2], parts[0], parts[1], parts[2], parts[3], parts[4]};
        return what >= 0 && what < all.length ? all[what] : -1;
    }
}
