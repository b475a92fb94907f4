/**
 * The boundary cases of the language of a TEXT, a method for each sentence, which it quotes. A ~ in a
 * text marks the place at which its FAULT is due, and does not belong to it.
 */
public final class LanguageEdgesTest {
    private static final Checks C = new Checks();
    private static final String[] LANGUAGE = {"if", "wheel", "gear", "safe", "row", "or", "and", "not", "off", "turn", "ram", "rudder"};
    private static final String[] NAMES = {"off", "turn", "wheel", "ram", "rudder"};
    private static final String[] COMPARISONS = {"<", "<=", "=", "<>", ">=", ">"};
    private static final String[] SIGNS = {"<", "<=", "=", "<>", ">=", ">", "+", "-", "*", "/", " and ", " or "};
    /** 63, 64 and 61 KNOTS of E. */
    private static final String E63 = "wheel 1" + "+1".repeat(31) + ";";
    private static final String E64 = E63 + "wheel 1;";
    private static final String E61 = "wheel 1" + "+1".repeat(30) + ";";
    /** 63 and 64 KNOTS of B. */
    private static final String B63 = "gear a if " + "not ".repeat(62) + "a;";
    private static final String B64 = "gear a if " + "not ".repeat(63) + "a;";
    private static final String SIX_GEARS = "gear a;gear b;gear c;gear d;gear e;gear f;";
    private static final String TWELVE_ORDERS = "row 1 1 2 3 4 5 6 7 8 9 10 11 12";
    private static final String TRILLION = "1000*1000*1000*1000";

    public static void main(String[] args) {
        blanks();
        everyByte();
        everyByteBetweenNumbers();
        words();
        wordsOfTheLanguage();
        numbers();
        everyTokenAtEveryPlace();
        emptyText();
        moreMustCome();
        signsOfTwo();
        precedence();
        wheelLines();
        gears();
        rows();
        stepsOfRows();
        ordersOfRows();
        allFullAtOnce();
        opened();
        knotsOfE();
        knotsOfB();
        knotsAllPutOff();
        noKnots();
        firstAlongTheText();
        ofOnePlaceTheLeast();
        toldAlready();
        noGear();
        orderWithin30();
        firstLineThatHolds();
        names();
        truth();
        bothSidesAreWorkedOut();
        trillion();
        productsThatGoRound();
        divisions();
        longs();
        C.end("LanguageEdgesTest");
    }

    // ---- TOKENS ----

    /** "Blanks 10, 32." */
    private static void blanks() {
        C.good("\n", 0);
        C.good(" ", 0);
        C.good("\n wheel \n\n1\n ;\n \n", 1);
        C.good("gear\na\nif\na;row\n1\n-\n1;", 2);
        C.badAt(1, "wheel 1;~\t");
        C.badAt(1, "wheel 1;~\r\n");
        C.badAt(1, "~\u000bwheel 1;");
        C.badAt(1, "~\u00a0wheel 1;");
        C.badAt(1, "~\u0000");
        C.badAt(1, "~wh eel 1;");
        C.badAt(1, "wheel 1< ~=2;");
    }

    /** "a TOKEN that is none .. or can't stand there": each byte where a LINE must begin. */
    private static void everyByte() {
        for (int b = 0; b < 256; b++) {
            String text = "wheel 1;" + (char) b;
            if (b == 10 || b == 32) {
                C.good(text, 1);
            } else {
                C.bad(text, 1, 8);
            }
        }
    }

    /** Each byte between two numbers: a blank, a digit, a sign, or none that can stand there. */
    private static void everyByteBetweenNumbers() {
        for (int b = 0; b < 256; b++) {
            String text = "wheel 8" + (char) b + "2;";
            if (b >= '0' && b <= '9' || "+-*/<=>".indexOf(b) >= 0) {
                C.good(text, 1);
            } else if (b == 10 || b == 32 || b == ';') {
                C.bad(text, 1, 8);
            } else {
                C.bad(text, 1, 7);
            }
        }
    }

    /** "Words: small letters in a row; W: one of 1 .. 6 letters"; "(a word of more than 6 letters, too)". */
    private static void words() {
        for (char letter = 'a'; letter <= 'z'; letter++) {
            for (int length = 1; length <= 8; length++) {
                String word = String.valueOf(letter).repeat(length);
                if (length <= 6) {
                    C.good("gear " + word + " if " + word + ";safe " + word + ";", 2);
                } else {
                    C.badAt(1, "gear ~" + word + ";");
                    C.badAt(1, "gear a if ~" + word + ";");
                    C.badAt(1, "safe ~" + word + ";");
                }
                C.badAt(1, "~" + word + ";");
                C.badAt(1, "wheel ~" + word + ";");
                C.badAt(1, "row 1 ~" + word + ";");
            }
        }
        C.badAt(1, "gear a~A;");
        C.badAt(1, "gear a~_b;");
        C.badAt(1, "gear a~1;");
        C.badAt(1, "gear ~1a;");
        C.badAt(1, "gear ~`;");
        C.badAt(1, "gear ~{;");
        C.badAt(1, "wheel 1/~;");
        C.badAt(1, "wheel 1~:;");
    }

    /** "none of those of the language". */
    private static void wordsOfTheLanguage() {
        for (String word : LANGUAGE) {
            C.badAt(1, "gear ~" + word + ";");
            if (!word.equals("not")) {
                C.badAt(1, "gear a if ~" + word + ";");
                C.badAt(1, "safe ~" + word + ";gear a;");
            }
            String less = word.substring(0, word.length() - 1);
            C.good("gear " + less + ";", 1);
            C.good("gear " + word.substring(1) + ";", 1);
            if (word.length() < 6) {
                C.good("gear " + word + "x;gear x" + word + ";safe " + word + "x;", 3);
            } else {
                C.badAt(1, "gear ~" + word + "x;");
            }
        }
    }

    /** "N 0 .. 9999", "N: digits". */
    private static void numbers() {
        C.good("wheel 0;", 1);
        C.good("wheel 9999;", 1);
        C.good("wheel 0000000000000000000000000000000009999;", 1);
        C.badAt(2, "wheel ~10000;");
        C.badAt(2, "wheel ~0010000;");
        C.badAt(2, "wheel ~65536;");
        C.badAt(2, "wheel ~2147483648;");
        C.badAt(2, "wheel ~4294967296;");
        C.badAt(2, "wheel ~4294967297;");
        C.badAt(2, "wheel ~18446744073709551616;");
        C.badAt(2, "if ~10000 wheel 1;");
        C.badAt(2, "wheel (1+~10000);");
        C.badAt(2, "wheel ~" + "9".repeat(500) + ";");
        C.order("wheel 0000030/0002;", 0, 15);
        C.order("wheel 9999/1000;", 0, 9);
    }

    private static final String OPERANDS = " not 7 off turn wheel ram rudder ( ";
    private static final String BEHIND_SIGN = " 7 off turn wheel ram rudder ( ";
    private static final String BEHIND_VALUE = " or and < <= = <> >= > + - * / ";
    private static final String LINES = " if wheel gear safe row ";
    /** What was read, and the TOKENS that can stand behind it. */
    private static final String[][] PLACES = {
        {"", LINES}, {"wheel 1;", LINES}, {"gear a;", LINES}, {"row 1 1;", LINES},
        {"if ", OPERANDS}, {"wheel ", OPERANDS}, {"wheel not ", OPERANDS}, {"wheel 1 or ", OPERANDS}, {"wheel 1 and ", OPERANDS},
        {"wheel ( ", OPERANDS}, {"if 1 wheel ", OPERANDS}, {"wheel 1+ ", BEHIND_SIGN}, {"wheel 1- ", BEHIND_SIGN},
        {"wheel 1* ", BEHIND_SIGN}, {"wheel 1/ ", BEHIND_SIGN}, {"wheel 1< ", BEHIND_SIGN}, {"wheel 1<> ", BEHIND_SIGN},
        {"wheel 1= ", BEHIND_SIGN}, {"wheel 1 ", BEHIND_VALUE + "; "}, {"wheel off ", BEHIND_VALUE + "; "}, {"wheel (1) ", BEHIND_VALUE + "; "},
        {"wheel not 1 ", BEHIND_VALUE + "; "}, {"wheel 1+2 ", BEHIND_VALUE + "; "}, {"if 1 ", BEHIND_VALUE + "wheel "},
        {"if wheel ", BEHIND_VALUE + "wheel "}, {"wheel (1 ", BEHIND_VALUE + ") "}, {"if 1 wheel 1 ", BEHIND_VALUE + "; "},
        {"wheel 1<2 ", " or and + - * / ; "}, {"wheel 1<2+3 ", " or and + - * / ; "}, {"wheel 1+2<2*3 ", " or and + - * / ; "},
        {"wheel not 1=2-1 ", " or and + - * / ; "}, {"if 1<2 ", " or and + - * / wheel "}, {"wheel (1<2 ", " or and + - * / ) "},
        {"wheel 1<2 and 3 ", BEHIND_VALUE + "; "}, {"wheel (1<2) ", BEHIND_VALUE + "; "}, {"wheel 1<2 or 3+4 ", BEHIND_VALUE + "; "},
        {"gear ", " w "}, {"gear a ", " if ; "}, {"gear a if ", " not w ( "}, {"gear a if not ", " not w ( "}, {"gear a if a and ", " not w ( "},
        {"gear a if a or ", " not w ( "}, {"gear a if ( ", " not w ( "}, {"gear a if a ", " or and ; "}, {"gear a if (a ", " or and ) "},
        {"gear a if (a) ", " or and ; "}, {"gear a if not a ", " or and ; "}, {"safe ", " not w ( "}, {"safe a ", " or and ; "},
        {"safe (a ", " or and ) "}, {"row ", " 7 "}, {"row 1 ", " - 7 "}, {"row 1 - ", " 7 "}, {"row 1 1 ", " - 7 ; "}, {"row 1 1 - ", " 7 "},
        {"row 1 -1 ", " - 7 ; "}};

    /** "1 a TOKEN that .. can't stand there": each TOKEN behind each part of a LINE. */
    private static void everyTokenAtEveryPlace() {
        String[] tokens = (String.join(" ", LANGUAGE) + BEHIND_VALUE + "w 7 ( ) ; # W wwwwwww ! % & : ? [ ^ | }").split(" +");
        for (String[] place : PLACES) {
            for (String token : tokens) {
                if (place[1].contains(" " + token + " ")) {
                    HuntingRudder x = new HuntingRudder();
                    Checks.read(x, place[0] + token);
                    C.due("can stand: " + place[0] + token, x.fault(0) != 1 || x.fault(1) > place[0].length(), true);
                } else {
                    C.badAt(1, place[0] + "~" + token + " 7;");
                }
            }
        }
    }

    /** "A TEXT: { LINE ';' }": none, too. */
    private static void emptyText() {
        C.good("", 0);
        C.badAt(1, "~;");
        C.badAt(1, "wheel 1;~;");
        C.badAt(1, "gear a;~;");
        C.badAt(1, "safe a;~;gear a;");
        C.badAt(1, "row 1 1;~;");
    }

    /** "(the length, if more must come)": of the TEXT, blanks behind its last TOKEN and all. */
    private static void moreMustCome() {
        String[] starts = {"wheel", "wheel 1", "wheel 1+", "wheel 1<", "wheel 1 and", "wheel not", "wheel (", "wheel (1", "wheel (1)", "if", "if 1",
            "if 1 wheel", "if 1 wheel 1", "gear", "gear a", "gear a if", "gear a if a", "gear a if not", "gear a if (", "gear a if (a",
            "safe", "safe a", "safe a or", "row", "row 1", "row 1 1", "row 1 -", "row 1 1 -"};
        for (String start : starts) {
            C.badAt(1, start + "~");
            C.badAt(1, start + " ~");
            C.badAt(1, start + "\n \n~");
            C.badAt(1, "wheel 1;" + start + "~");
        }
    }

    /** "A = (or > behind <) right behind < or > belongs to it." */
    private static void signsOfTwo() {
        for (String sign : COMPARISONS) {
            C.good("wheel 1" + sign + "2;", 1);
            C.good("wheel 1 " + sign + " 2;", 1);
        }
        C.badAt(1, "wheel 1< ~=2;");
        C.badAt(1, "wheel 1> ~=2;");
        C.badAt(1, "wheel 1< ~>2;");
        C.badAt(1, "wheel 1>~>2;");
        C.badAt(1, "wheel 1>~<2;");
        C.badAt(1, "wheel 1<~<2;");
        C.badAt(1, "wheel 1=~>2;");
        C.badAt(1, "wheel 1=~<2;");
        C.badAt(1, "wheel 1=~=2;");
        C.badAt(1, "wheel 1<=~=2;");
        C.badAt(1, "wheel 1<>~=2;");
        C.badAt(1, "wheel 1<>~>2;");
        C.badAt(1, "wheel 1>=~>2;");
        C.badAt(1, "wheel 1<=~>2;");
        int[][] due = {{1, 0, 0}, {1, 1, 0}, {0, 1, 0}, {1, 0, 1}, {0, 1, 1}, {0, 0, 1}};
        for (int k = 0; k < COMPARISONS.length; k++) {
            for (int off = -1; off <= 1; off++) {
                C.order("wheel off" + COMPARISONS[k] + "0;", off, due[k][off + 1]);
            }
        }
    }

    /** "E: A { or A }. A: G { and G }. G: not G | C. C: S [ .. S ]. S: T { .. T }. T: P { .. P }." */
    private static void precedence() {
        for (String first : COMPARISONS) {
            for (String second : COMPARISONS) {
                C.badAt(1, "wheel 1" + first + "2~" + second + "3;");
                C.badAt(1, "wheel not 1" + first + "2*3~" + second + "3;");
                C.good("wheel (1" + first + "2)" + second + "3;", 1);
                C.good("wheel 1" + first + "(2" + second + "3);", 1);
                C.good("wheel 1" + first + "2 and 2" + second + "3;", 1);
                C.good("wheel 1" + first + "2 or not 2" + second + "3;", 1);
            }
        }
        C.order("wheel 3-2-1;", 0, 0);
        C.order("wheel 3-(2-1);", 0, 2);
        C.order("wheel 24/4/2;", 0, 3);
        C.order("wheel 24/(4/2);", 0, 12);
        C.order("wheel 1 or 1 and 0;", 0, 1);
        C.order("wheel 0 and 1 or 1;", 0, 1);
        C.order("wheel 0 and (1 or 1);", 0, 0);
        C.order("wheel not 0 or 1;", 0, 1);
        C.order("wheel not (0 or 1);", 0, 0);
        C.order("wheel not 2=3;", 0, 1);
        C.order("wheel not 0+1;", 0, 0);
        C.order("wheel 1+2=3;", 0, 1);
        C.order("wheel 1+2*3;", 0, 7);
        C.badAt(1, "wheel 1+~not 1;");
        C.badAt(1, "wheel 1<~not 1;");
        C.badAt(1, "wheel ~-1;");
        C.badAt(1, "gear a if (~;");
    }

    // ---- LINES ----

    /** "wheel LINES, at most 12"; "a 13th wheel LINE (at its first TOKEN)". */
    private static void wheelLines() {
        for (int lines = 0; lines <= 12; lines++) {
            C.good("wheel 1;".repeat(lines), lines);
            C.good("if 1 wheel 1;".repeat(lines), lines);
        }
        String twelve = "if off wheel 1;wheel 2;".repeat(6);
        C.badAt(2, twelve + "~wheel 1;");
        C.badAt(2, twelve + "~if 1 wheel 1;");
        C.badAt(2, twelve + "\n\n ~if 1 wheel 1;");
        C.badAt(2, twelve + "~wheel");
        C.badAt(2, twelve + "~if");
        C.badAt(2, twelve + "~if #");
        C.badAt(2, twelve + "gear a;row 1 1;~wheel 1;");
        C.good(twelve + "gear a;row 1 1;safe a;", 15);
        HuntingRudder x = C.with("if off-11 wheel 1;".repeat(11) + "wheel 7;");
        C.due("12 wheel LINES", x.count(0), 12);
        C.due("the 12th is asked too", x.led(11, 1, 5), 7);
    }

    /** "GEARS, at most 6, numbered as they come"; "a seventh gear (at the word)". */
    private static void gears() {
        C.good(SIX_GEARS, 6);
        C.badAt(2, SIX_GEARS + "~gear g;");
        C.badAt(2, SIX_GEARS + "~gear");
        C.badAt(2, SIX_GEARS + "~gear 1;");
        C.badAt(2, SIX_GEARS + "~gear a;");
        C.badAt(2, SIX_GEARS + "wheel 1;row 1 1;~gear g if a;");
        C.good(SIX_GEARS + "wheel 1;row 1 1;safe f;", 9);
        HuntingRudder x = C.with("gear f;gear e;gear d;gear c;gear b;gear a;");
        C.due("GEARS", x.count(1), 6);
        for (int k = 0; k < 6; k++) {
            C.due("numbered as they come: " + k, x.named(Checks.letters(String.valueOf((char) ('f' - k)))), k);
        }
    }

    /** "ROWS, at most 6"; "a seventh row (at the word)". */
    private static void rows() {
        String six = "row 1 1;row 2 2;row 3 3;row 4 4;row 5 5;row 6 6;";
        C.good(six, 6);
        C.badAt(2, six + "~row 1 1;");
        C.badAt(2, six + "~row");
        C.badAt(2, six + "~row 0;");
        C.badAt(2, six + "wheel 1;gear a;~row 1 1;");
        C.good(six + "wheel 1;gear a;", 8);
        HuntingRudder x = C.with(six);
        for (int k = 0; k < 6; k++) {
            C.due("STEPS of ROW " + k, Checks.row(x, k, 0), k + 1);
        }
    }

    /** "so many STEPS (1 .. 9) each". */
    private static void stepsOfRows() {
        for (int steps = 1; steps <= 9; steps++) {
            HuntingRudder x = C.with("row " + steps + " 4 -5;row 00" + steps + " 1;");
            C.due("STEPS", Checks.row(x, 0, 0), steps);
            C.due("STEPS with zeros ahead", Checks.row(x, 1, 0), steps);
            C.due("the last STEP of the first ORDER", x.steer(0, 0, steps, 5), 4);
            C.due("the first STEP of the second", x.steer(0, 0, steps + 1, 5), -5);
        }
        C.badAt(2, "row ~0 1;");
        C.badAt(2, "row ~00 1;");
        C.badAt(2, "row ~10 1;");
        C.badAt(2, "row ~9999 1;");
        C.badAt(2, "row ~10000 1;");
        C.badAt(2, "row ~4294967297 1;");
        C.badAt(2, "row ~0;");
        C.badAt(1, "row ~-1 1;");
        C.badAt(1, "row ~;");
    }

    /** "of ORDERS -30 .. 30, 1 .. 12 of them"; "a 13th ORDER (at its N)". */
    private static void ordersOfRows() {
        StringBuilder all = new StringBuilder();
        for (int order = 0; order <= 30; order++) {
            C.good("row 1 " + order + ";row 1 -" + order + ";", 2);
        }
        C.badAt(2, "row 1 ~31;");
        C.badAt(2, "row 1 -~31;");
        C.badAt(2, "row 1 - ~31;");
        C.badAt(2, "row 1 1 ~31 1;");
        C.badAt(2, "row 1 ~10000;");
        C.badAt(2, "row 1 -~4294967296;");
        C.badAt(1, "row 1~;");
        C.badAt(1, "row 1 -~-1;");
        C.badAt(1, "row 1 -~;");
        C.badAt(1, "row 1 ~+1;");
        for (int n = 1; n <= 12; n++) {
            all.append(n % 2 == 0 ? "-" : " ").append(n);
            HuntingRudder x = C.with("row 1" + all + ";");
            C.due("ORDERS", Checks.row(x, 0, 1), n);
            C.due("the last ORDER", Checks.row(x, 0, n + 1), n % 2 == 0 ? -n : n);
            C.due("no more", Checks.row(x, 0, n + 2), 1_000_002);
        }
        C.good(TWELVE_ORDERS + ";", 1);
        C.badAt(2, TWELVE_ORDERS + " ~13;");
        C.badAt(2, TWELVE_ORDERS + " -~13;");
        C.badAt(2, TWELVE_ORDERS + " ~31;");
        C.badAt(2, TWELVE_ORDERS + " ~0 0 0;");
        C.badAt(1, TWELVE_ORDERS + "-~;");
        C.badAt(1, TWELVE_ORDERS + " ~off;");
        C.badAt(1, TWELVE_ORDERS + "~");
        C.good(TWELVE_ORDERS + ";" + TWELVE_ORDERS + ";", 2);
    }

    /** 12 wheel LINES, 6 GEARS, 6 ROWS, safe, 64 KNOTS of each: all of these in one TEXT, and one more of each. */
    private static void allFullAtOnce() {
        String text = "wheel 1" + "+1".repeat(26) + ";" + "wheel 1;".repeat(11) + "gear a if " + "not ".repeat(56) + "a;"
            + "gear b if b;gear c if c;gear d if d;gear e if e;gear f;safe f or e;" + "row 9 1;".repeat(5) + TWELVE_ORDERS + ";";
        C.good(text, 25);
        HuntingRudder x = C.with(text);
        int[] due = {12, 6, 6, 64, 64};
        for (int what = 0; what < due.length; what++) {
            C.due("all full: count(" + what + ")", x.count(what), due[what]);
        }
        C.badAt(2, text + "~wheel 1;");
        C.badAt(2, text + "~gear g;");
        C.badAt(2, text + "~row 1 1;");
        C.badAt(3, text + "~safe a;");
    }

    // ---- '(' and KNOTS ----

    /** "a ninth '(' open". */
    private static void opened() {
        for (int open = 1; open <= 8; open++) {
            String inside = "(".repeat(open) + "1" + ")".repeat(open);
            C.good("if " + inside + " wheel " + inside + ";", 1);
            C.good("wheel " + inside + "+" + inside + ";", 1);
            String gears = "(".repeat(open) + "a" + ")".repeat(open);
            C.good("gear a if " + gears + " or " + gears + ";safe " + gears + ";", 2);
            C.badAt(1, "wheel " + inside + "~);");
            C.badAt(1, "wheel " + "(".repeat(open) + "1" + ")".repeat(open - 1) + "~;");
            C.badAt(1, "gear a if " + gears + "~);");
        }
        C.badAt(2, "wheel ((((((((~(1)))))))));");
        C.badAt(2, "if ((((((((~(1))))))))) wheel 1;");
        C.badAt(2, "gear a if ((((((((~(a)))))))));");
        C.badAt(2, "safe ((((((((~(a)))))))));");
        C.badAt(2, "wheel ((((((((~(");
        C.badAt(2, "wheel ((((((((1)+(~(1");
        C.badAt(2, "wheel (not (not (not (not (not (not (not (not ~(1");
        C.good("wheel ((((((((1)+(1))))))));", 1);
        C.badAt(2, "wheel ((((((((1)+(1)+(~(1)))))))));");
        C.badAt(2, "wheel (1)+((((((((~(1)))))))));");
    }

    /** "a 65th KNOT of all E (N, NAMES, signs, not, and, or: one each)". */
    private static void knotsOfE() {
        HuntingRudder x = C.with(E64);
        C.due("64 KNOTS of E", x.count(3), 64);
        C.due("63 KNOTS of E", C.with(E63).count(3), 63);
        C.badAt(2, E64 + "wheel ~1;");
        C.badAt(2, E64 + "if ~1 wheel 1;");
        C.badAt(2, E64 + "wheel ~not 1;");
        C.badAt(2, E64 + "wheel (~1);");
        C.badAt(2, E64 + "wheel ((((((((~1");
        C.badAt(2, E64 + "wheel ~10000;");
        for (String name : NAMES) {
            C.badAt(2, E64 + "wheel ~" + name + ";");
            HuntingRudder y = C.with(E63 + "wheel " + name + ";");
            C.due("a NAME is one", y.count(3), 64);
        }
        for (String sign : SIGNS) {
            int blank = sign.startsWith(" ") ? 1 : 0;
            C.badAt(2, E63 + "wheel 1" + sign.substring(0, blank) + "~" + sign.substring(blank) + "1;");
            C.due(sign + " is one", C.with("wheel 1" + sign + "1;").count(3), 3);
        }
        C.badAt(2, E63 + "wheel not ~1;");
        C.badAt(2, E63 + "wheel not ~not 1;");
        C.badAt(2, E63 + "if 1 wheel ~1;");
        C.due("of all E, of if too", C.with("if 1 wheel 1;wheel 1;").count(3), 3);
    }

    /** "a 65th of all B (W, not, and, or: one each)". */
    private static void knotsOfB() {
        C.due("63 KNOTS of B", C.with(B63).count(4), 63);
        C.due("64 KNOTS of B", C.with(B64).count(4), 64);
        C.badAt(2, B64 + "safe ~a;");
        C.badAt(2, B64 + "safe (~a);");
        C.badAt(2, B64 + "safe ~not a;");
        C.badAt(2, B64 + "gear b if ~b;");
        C.badAt(2, B63 + "safe a ~and a;");
        C.badAt(2, B63 + "safe a ~or a;");
        C.badAt(2, B63 + "safe not ~a;");
        C.good(B63 + "safe a;", 2);
        C.good(B64 + "gear b;gear c;", 3);
        C.due("and, or", C.with("gear a if a and a or a;").count(4), 5);
        C.due("of all B", C.with("gear a if a;gear b if not b;safe a;").count(4), 4);
    }

    /** 64 KNOTS of which all but one, and eight '(', wait for what comes behind them. */
    private static void knotsAllPutOff() {
        for (int nots = 60; nots <= 63; nots++) {
            String inside = "((((((((" + "not ".repeat(nots) + "9))))))));";
            C.order("wheel " + inside, 0, nots % 2 == 0 ? 1 : 0);
            HuntingRudder x = C.with("gear a;safe ((((((((" + "not ".repeat(nots) + "a))))))));");
            C.due("safe of " + nots + " not", x.safe(1), nots % 2 == 0 ? 1 : 0);
            C.due("safe of " + nots + " not, off", x.safe(0), nots % 2 == 0 ? 0 : 1);
        }
        C.badAt(2, "wheel ((((((((" + "not ".repeat(64) + "~9))))))));");
        C.badAt(2, "safe ((((((((" + "not ".repeat(64) + "~a))))))));gear a;");
    }

    /** "no - of a row"; nor are '(' and ')', the words of a LINE, a GEAR's own W or the N of a row. */
    private static void noKnots() {
        C.good(E64 + "row 1 -1 -2 - 3 4;gear a if a;safe a;", 5);
        HuntingRudder x = C.with(E64 + "row 1 -1 -2;" + B64);
        C.due("E has its 64", x.count(3), 64);
        C.due("B has its own 64", x.count(4), 64);
        HuntingRudder y = C.with("row 9 -1 2;gear a;gear b;wheel ((1));safe ((a));");
        C.due("one of E", y.count(3), 1);
        C.due("one of B", y.count(4), 1);
    }

    // ---- FAULTS ----

    /** "the first along the text", whatever its number is. */
    private static void firstAlongTheText() {
        C.badAt(1, "~#wheel 10000;gear a;gear a;");
        C.badAt(2, "wheel ~10000;#");
        C.badAt(2, "wheel ~10000;gear a;gear a;");
        C.badAt(3, "gear a;gear ~a;wheel 10000;#");
        C.badAt(3, "gear a;safe a;~safe a;row 0 1;");
        C.badAt(1, "wheel ~a 10000;");
        C.badAt(2, "row ~0 31;");
        C.badAt(2, "row 1 ~31 32;");
    }

    /** "(of one place the least)". */
    private static void ofOnePlaceTheLeast() {
        C.badAt(1, "wheel 1 ~10000;");
        C.badAt(1, "gear ~10000;");
        C.badAt(1, "gear a if ~10000;");
        C.badAt(1, "~10000;");
        C.badAt(1, "wheel ((((((((1~(1");
        C.badAt(1, "gear a if ((((((((a~(a");
        C.badAt(1, E64 + "wheel ~and;");
        C.badAt(1, E64 + "wheel ~+1;");
        C.badAt(1, E64 + "wheel ~a;");
        C.badAt(1, E63 + "wheel 1 ~not 1;");
        C.badAt(1, E63 + "wheel 1 ~off;");
        C.badAt(1, E61 + "wheel 1=1~=1;");
        C.badAt(2, E61 + "wheel 1=1 ~and 1;");
        C.badAt(1, B64 + "safe ~and;");
        C.badAt(1, B64 + "safe ~1;");
        C.badAt(1, B63 + "safe a ~not a;");
        C.badAt(1, B63 + "safe a ~a;");
        C.badAt(1, B63 + "safe a ~+a;");
        C.badAt(1, "wheel 1;".repeat(11) + "wheel 1 ~wheel 1;");
        C.badAt(1, "wheel 1;".repeat(11) + "wheel 1 ~if 1 wheel 1;");
        C.badAt(1, SIX_GEARS.substring(0, SIX_GEARS.length() - 1) + " ~gear g;");
        C.badAt(1, "row 1 1;".repeat(5) + "row 1 1 ~row 1 1;");
        C.badAt(1, "gear a;safe a ~safe a;");
        C.badAt(1, "gear a ~a;");
        C.badAt(1, "gear a;gear b if a ~a;");
        C.badAt(1, "gear a if a ~b;");
        C.badAt(2, B64 + "safe ~x;");
    }

    /** "3 told already: a GEAR (at its W), safe (at the word)." */
    private static void toldAlready() {
        C.badAt(3, "gear a;gear ~a;");
        C.badAt(3, "gear a;gear ~a");
        C.badAt(3, "gear a;gear ~a if q;");
        C.badAt(3, "gear abcdef;gear b;gear ~abcdef;");
        C.badAt(3, SIX_GEARS.replace("gear f;", "") + "gear ~e;");
        C.good("gear a;gear aa;gear aaa;gear aaaa;gear aaaaa;gear aaaaaa;", 6);
        C.badAt(3, "gear a;safe a;~safe a;");
        C.badAt(3, "safe a;~safe a;gear a;");
        C.badAt(3, "safe a;gear a;~safe");
        C.badAt(3, "safe a;gear a;~safe;");
        C.good("wheel 1;wheel 1;row 1 1;row 1 1;", 4);
        HuntingRudder x = C.with("gear a;safe a;");
        C.due("told in the TEXT ahead alone", Checks.read(x, "gear a;safe a;"), 2);
        C.due("told in a TEXT with a FAULT alone", Checks.read(x, "gear b;safe b;#"), -1);
        C.due("may be told then", Checks.read(x, "gear b;safe b;"), 2);
    }

    /** "4 a W in B that is no GEAR of the whole text (at it; asked at the end, the first of these)". */
    private static void noGear() {
        C.badAt(4, "safe ~b;gear a;");
        C.badAt(4, "gear a if ~b;");
        C.badAt(4, "gear a if ~b;safe c;");
        C.badAt(4, "safe ~c;gear a if b;");
        C.badAt(4, "gear a if a or not (a and ~b) or c;");
        C.badAt(4, "gear a if ~aa;");
        C.badAt(4, "gear aa if ~a;");
        C.badAt(4, "safe ~a;");
        C.good("safe b;gear a if b;gear b if a;", 3);
        C.good("gear a if f;" + SIX_GEARS.substring(7), 6);
        C.badAt(4, "safe ~b;");
        C.badAt(1, "safe b~");
        C.badAt(1, "safe b;~;");
        C.badAt(1, "gear a if b;wheel ~;");
        C.badAt(2, "gear a if b;wheel ~10000;");
        C.badAt(3, "gear a if b;gear ~a;");
        HuntingRudder x = C.with("gear b;");
        C.due("a GEAR of the TEXT ahead is none", Checks.read(x, "safe b;gear a;"), -1);
        C.due("FAULT 4", x.fault(0), 4);
        C.due("at it", x.fault(1), 5);
    }

    // ---- VALUES ----

    /** "the ORDER is .. 30 at most, -30 at least". */
    private static void orderWithin30() {
        for (int off = -33; off <= 33; off++) {
            C.order("wheel off;", off, Math.max(-30, Math.min(30, off)));
        }
        C.order("wheel off;", 1799, 30);
        C.order("wheel off;", -1800, -30);
        C.order("wheel " + TRILLION + ";", 0, 30);
        C.order("wheel 0-" + TRILLION + ";", 0, -30);
        // 2 to the 32 and to the 32 less 1, which an int can't hold.
        C.order("wheel 256*256*256*256;", 0, 30);
        C.order("wheel 256*256*256*256-1;", 0, 30);
        C.order("wheel 0-256*256*256*128-1;", 0, -30);
    }

    /** "the first one without if or whose E isn't 0 (with an ERROR it is left out) .. 0 without one or with an ERROR of its E". */
    private static void firstLineThatHolds() {
        C.order("", 7, 0);
        C.order("gear a;row 1 9;", 7, 0);
        C.order("if 0 wheel 3;", 7, 0);
        C.order("if 0 wheel 3;if 1/0 wheel 4;", 7, 0);
        C.order("if 0 wheel 3;".repeat(12), 7, 0);
        C.order("if 0 wheel 3;".repeat(11) + "if 1 wheel 4;", 7, 4);
        C.order("if 1/0 wheel 3;wheel 4;", 7, 4);
        C.order("if 1/0 wheel 3;if 1 wheel 5;wheel 4;", 7, 5);
        C.order("if 1 wheel 1/0;wheel 4;", 7, 0);
        C.order("wheel 1/0;wheel 4;", 7, 0);
        C.order("if 0 wheel 1/0;wheel 4;", 7, 4);
        C.order("if 0-1 wheel 3;wheel 4;", 7, 3);
        C.order("if off-7 wheel 3;wheel 4;", 7, 4);
        C.order("if " + TRILLION + " wheel 3;wheel 4;", 7, 3);
        C.order("if " + TRILLION + "+1 wheel 3;wheel 4;", 7, 4);
        C.order("wheel 3;wheel 4;", 7, 3);
        C.order("wheel 4;if 1 wheel 3;", 7, 4);
    }

    /** "NAME: off turn wheel ram rudder": each as the STATE ahead of the STEP has it. */
    private static void names() {
        int[] whats = {4, 3, 0, 1, 2};
        for (int k = 0; k < NAMES.length; k++) {
            for (int lag = 0; lag <= 3; lag++) {
                HuntingRudder x = C.with("if off<0 wheel 25;wheel " + NAMES[k] + ";");
                x.part(3, lag);
                x.part(0, 1);
                x.part(1, 2);
                x.ship(0, 17);
                int asked = 0;
                for (int n = 1; n <= 40; n++) {
                    if (x.led(-20, n - 1, 4) >= 0) {
                        int value = x.led(-20, n - 1, whats[k]);
                        C.due(NAMES[k] + " ahead of STEP " + n, x.led(-20, n, 5), Math.max(-30, Math.min(30, value)));
                        asked++;
                    }
                }
                C.due("the NAME was asked", asked > 10, true);
            }
        }
    }

    /** "comparisons, and, or, not are 1 or 0 (what isn't 0 is as 1". */
    private static void truth() {
        int[] some = {-1800, -2, -1, 0, 1, 2, 1799};
        for (int off : some) {
            int one = off == 0 ? 0 : 1;
            C.order("wheel not off;", off, 1 - one);
            C.order("wheel not not off;", off, one);
            C.order("wheel off and off;", off, one);
            C.order("wheel off and 0;", off, 0);
            C.order("wheel 0 and off;", off, 0);
            C.order("wheel off or off;", off, one);
            C.order("wheel off or 0;", off, one);
            C.order("wheel 0 or off;", off, one);
            C.order("wheel off or 5;", off, 1);
            C.order("wheel (off=off)*9;", off, 9);
            C.order("wheel 9*(off<>off);", off, 0);
        }
    }

    /** "both sides are worked out": an ERROR of either is one of both. */
    private static void bothSidesAreWorkedOut() {
        for (String sign : SIGNS) {
            C.order("wheel ((1/0)" + sign + "1)*0+5;", 0, 0);
            C.order("wheel (1" + sign + "(1/0))*0+5;", 0, 0);
            C.order("wheel (0" + sign + "(1/0))*0+5;", 0, 0);
            C.order("wheel (1" + sign + "1)*0+5;", 0, 5);
        }
        C.order("wheel 5+(not (1/0));", 0, 0);
        C.order("if 1 or 1/0 wheel 5;wheel 6;", 0, 6);
        C.order("if not (0 and 1/0) wheel 5;wheel 6;", 0, 6);
    }

    /** "ERROR: .. a value above 10 to the 12 or below 0 by more than that": each sign that can lead there. */
    private static void trillion() {
        String least = "(0-" + TRILLION + ")";
        String[] values = {TRILLION, TRILLION + "-1", TRILLION + "+0", least, least + "-0", least + "+1", "(" + TRILLION + ")*1",
            least + "*1", "(0-1000*1000)*(1000*1000)", "(0-1000*1000)*(0-1000*1000)", "(" + TRILLION + ")*0", TRILLION + "/1", least + "/1",
            "9999*9999*9999"};
        for (String value : values) {
            C.order("wheel (" + value + ")*0+5;", 0, 5);
            C.order("if (" + value + ")*0=0 wheel 5;wheel 6;", 0, 5);
        }
        String[] errors = {TRILLION + "+1", "1+" + TRILLION, least + "-1", "0-1-" + TRILLION, "1-" + least, "(0-1)+" + least,
            "(" + TRILLION + ")*2", least + "*2", "1001*1000*1000*1000", "9999*9999*9999*2", "(" + TRILLION + ")*(" + TRILLION + ")",
            least + "*" + least, "1000*1000*1000*1000*(0-2)",
            "(0-256*256*256*256)*(256*256*256*256)", "(256*256*256*256)*(0-256*256*256*256)", "(0-256*256*256*256)*(0-256*256*256*256)",
            "(256*256*256*256)*(256*256*256*256)", "(256*256*256*256)*(128*256*256*256)"};
        for (String error : errors) {
            C.order("wheel (" + error + ")*0+5;", 0, 0);
            C.order("if (" + error + ")*0=0 wheel 5;wheel 6;", 0, 6);
        }
        // 1000001 times 999999 is 10 to the 12 less 1, 1000001 times 1000000 is above it.
        C.order("wheel (1000*1000+1)*(1000*1000-1)*0+5;", 0, 5);
        C.order("wheel (1000*1000+1)*(1000*1000)*0+5;", 0, 0);
        C.order("wheel (0-1000*1000-1)*(1000*1000)*0+5;", 0, 0);
    }

    /** Two VALUES whose product is 2 to the 64: in a long that would be 0 again, which is no ERROR. */
    private static void productsThatGoRound() {
        for (int power = 25; power <= 39; power++) {
            String a = powerOfTwo(power);
            String b = powerOfTwo(64 - power);
            C.order("wheel (" + a + ")*0+(" + b + ")*0+5;", 0, 5);
            C.order("wheel (" + a + ")*(" + b + ")+5;", 0, 0);
            C.order("wheel (0-" + a + ")*(" + b + ")+5;", 0, 0);
            C.order("wheel (" + a + ")*(0-" + b + ")+5;", 0, 0);
            C.order("if (" + a + ")*(" + b + ")=0 wheel 5;wheel 6;", 0, 6);
        }
    }

    private static String powerOfTwo(int power) {
        return "8192*" + (1 << Math.min(13, power - 13)) + "*" + (1 << Math.max(0, power - 26));
    }

    /** "/ by 0"; "All quotients are cut towards 0." */
    private static void divisions() {
        for (int off = -7; off <= 7; off++) {
            int due = off == 0 ? 0 : (off < 0 ? -1 : 1) * (20 / Math.abs(off));
            C.order("wheel 20/off;", off, due);
            C.order("wheel (0-20)/off;", off, -due);
            C.order("wheel off/4;", off, (off < 0 ? -1 : 1) * (Math.abs(off) / 4));
            C.order("wheel off/(0-4);", off, (off > 0 ? -1 : 1) * (Math.abs(off) / 4));
            C.order("if 1/off=2 wheel 3;wheel 4;", off, 4);
        }
        C.order("wheel 0/0;", 0, 0);
        C.order("if 0/0=0 wheel 3;wheel 4;", 0, 4);
        C.order("if 0/1=0 wheel 3;wheel 4;", 0, 3);
    }

    /** "VALUES are longs". */
    private static void longs() {
        C.order("wheel 256*256*256*256>0;", 0, 1);
        C.order("wheel 256*256*256*128>0;", 0, 1);
        C.order("wheel 256*256*256*256=0;", 0, 0);
        C.order("wheel not (256*256*256*256);", 0, 0);
        C.order("wheel 256*256*256*256 and 1;", 0, 1);
        C.order("wheel 256*256*256*256/256/256/256/256;", 0, 1);
        C.order("if 256*256*256*256 wheel 3;wheel 4;", 0, 3);
    }
}
