/** What the tests share: comparing answers, and feeding a text to an object. */
final class Checks {
    private int wrong = 0;
    private int asked = 0;

    void due(String call, long got, long want) {
        asked++;
        if (got != want) {
            wrong++;
            if (wrong <= 50) {
                System.out.println(call + " answered " + got + ", due is " + want);
            }
        }
    }

    void due(String call, boolean got, boolean want) {
        due(call, got ? 1 : 0, want ? 1 : 0);
    }

    void end(String name) {
        System.out.println(name + ": " + asked + " answers, " + wrong + " not as due");
        if (wrong != 0 || asked == 0) {
            System.exit(1);
        }
    }

    /** Feeds the signs of a text, filled up with blanks, and answers text() of its length. */
    static int read(HuntingRudder x, String text) {
        feed(x, text);
        return x.text(text.length());
    }

    static void feed(HuntingRudder x, String text) {
        for (int at = 0; at < text.length(); at += 20) {
            x.feed(number(text, at), number(text, at + 4), number(text, at + 8), number(text, at + 12), number(text, at + 16));
        }
    }

    private static int number(String text, int at) {
        int number = 0;
        for (int k = at; k < at + 4; k++) {
            number = number << 8 | (k < text.length() ? text.charAt(k) & 255 : ' ');
        }
        return number;
    }

    /** A word's letters as named() takes them. */
    static int letters(String word) {
        int letters = 0;
        for (int k = 0; k < 6; k++) {
            letters = letters << 5 | (k < word.length() ? word.charAt(k) - 96 : 0);
        }
        return letters;
    }

    /** The answer of row(); a million and one with IndexOutOfBoundsException, and two with NoSuchElementException. */
    static int row(HuntingRudder x, int row, int what) {
        try {
            return x.row(row, what);
        } catch (IndexOutOfBoundsException e) {
            return 1_000_001;
        } catch (java.util.NoSuchElementException e) {
            return 1_000_002;
        }
    }
}
