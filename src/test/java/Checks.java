/** What the tests share: comparing answers, and feeding a text to an object. */
final class Checks {
    private int wrong = 0;
    private int asked = 0;

    void due(String call, long got, long want) {
        asked++;
        if (got != want) {
            wrong++;
            if (wrong <= 50) {
                System.out.println(call + " answered " + got + ", due is " + want);
            }
        }
    }

    void due(String call, boolean got, boolean want) {
        due(call, got ? 1 : 0, want ? 1 : 0);
    }

    /** A new object that has read a TEXT without a FAULT. */
    HuntingRudder with(String text) {
        HuntingRudder x = new HuntingRudder();
        due("text of " + text, read(x, text) >= 0, true);
        return x;
    }

    /** A TEXT without a FAULT, of so many LINES. */
    void good(String text, int lines) {
        HuntingRudder x = new HuntingRudder();
        due("text of " + text, read(x, text), lines);
        due("fault of " + text, x.fault(0), 0);
        due("no place of " + text, x.fault(1), -1);
    }

    /** A TEXT with a FAULT, and its place. */
    void bad(String text, int fault, int place) {
        HuntingRudder x = new HuntingRudder();
        due("text of " + text, read(x, text), -1);
        due("fault of " + text, x.fault(0), fault);
        due("place of " + text, x.fault(1), place);
    }

    /** A TEXT with a FAULT at the place where a ~ stands in it, which does not belong to it. */
    void badAt(int fault, String marked) {
        int place = marked.indexOf('~');
        due("one place is marked: " + marked, place >= 0 && place == marked.lastIndexOf('~'), true);
        bad(marked.replace("~", ""), fault, place);
    }

    /** The ORDER that a TEXT gives from OFF in the first STEP. */
    void order(String text, int off, int due) {
        due("order of " + text + " from " + off, with(text).led(off, 1, 5), due);
    }

    void end(String name) {
        System.out.println(name + ": " + asked + " answers, " + wrong + " not as due");
        if (wrong != 0 || asked == 0) {
            System.exit(1);
        }
    }

    /** Feeds the signs of a text, filled up with blanks, and answers text() of its length. */
    static int read(HuntingRudder x, String text) {
        feed(x, text);
        return x.text(text.length());
    }

    static void feed(HuntingRudder x, String text) {
        for (int at = 0; at < text.length(); at += 20) {
            x.feed(number(text, at), number(text, at + 4), number(text, at + 8), number(text, at + 12), number(text, at + 16));
        }
    }

    private static int number(String text, int at) {
        int number = 0;
        for (int k = at; k < at + 4; k++) {
            number = number << 8 | (k < text.length() ? text.charAt(k) & 255 : ' ');
        }
        return number;
    }

    /** A word's letters as named() takes them. */
    static int letters(String word) {
        int letters = 0;
        for (int k = 0; k < 6; k++) {
            letters = letters << 5 | (k < word.length() ? word.charAt(k) - 96 : 0);
        }
        return letters;
    }

    /** The answer of row(); a million and one with IndexOutOfBoundsException, and two with NoSuchElementException. */
    static int row(HuntingRudder x, int row, int what) {
        try {
            return x.row(row, what);
        } catch (IndexOutOfBoundsException e) {
            return 1_000_001;
        } catch (java.util.NoSuchElementException e) {
            return 1_000_002;
        }
    }
}
