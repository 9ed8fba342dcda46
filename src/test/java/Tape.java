/** Feeds texts five bytes at a time, as an object has few calls to spare. */
final class Tape {
    private Tape() {
    }

    static void feed(AGapEveryTwenty x, String text) {
        for (int i = 0; i < text.length(); i += 5) {
            int[] v = new int[5];
            int n = Math.min(5, text.length() - i);
            for (int k = 0; k < n; k++) {
                v[k] = text.charAt(i + k);
            }
            x.feed(n, v[0], v[1], v[2], v[3], v[4]);
        }
    }

    /** The number of the text, or what refuses it. */
    static int read(AGapEveryTwenty x, String text) {
        feed(x, text);
        return x.text();
    }

    /** The text becomes the law, too. */
    static int obey(AGapEveryTwenty x, String text) {
        int t = read(x, text);
        x.force(t);
        return t;
    }

    /** A sheet becomes a row of ints with these numbers. */
    static void write(AGapEveryTwenty x, int s, int... numbers) {
        x.sheet(s, 2, numbers.length);
        for (int i = 0; i < numbers.length; i++) {
            x.cell(s, i, numbers[i]);
        }
    }
}
