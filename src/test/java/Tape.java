/** Feeds texts byte by byte, as a host would. */
final class Tape {
    private Tape() {
    }

    static void feed(AGapEveryTwenty x, String text) {
        for (int i = 0; i < text.length(); i++) {
            x.feed(1, text.charAt(i), 0, 0, 0, 0);
        }
    }

    /** The number of the text, or what refuses it. */
    static int read(AGapEveryTwenty x, String text) {
        feed(x, text);
        return x.text();
    }

    /** The text becomes the law, too. */
    static int obey(AGapEveryTwenty x, String text) {
        int t = read(x, text);
        x.force(t);
        return t;
    }

    /** A sheet becomes a row of ints with these numbers. */
    static void write(AGapEveryTwenty x, int s, int... numbers) {
        x.sheet(s, 2, numbers.length);
        for (int i = 0; i < numbers.length; i++) {
            x.cell(s, i, numbers[i]);
        }
    }
}
