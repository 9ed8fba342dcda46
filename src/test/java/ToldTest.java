/** Promises 25 to 34: told heaps, told chances, images. */
public final class ToldTest {
    private static final int BAD = AGapEveryTwenty.BAD, STATE = AGapEveryTwenty.STATE;
    private static final long NO = AGapEveryTwenty.NO;
    private static final Due due = new Due("ToldTest");

    public static void main(String[] args) {
        judges();
        origins();
        byReach();
        hows();
        checks();
        kinds();
        laws();
        amisses();
        films();
        images();
        due.end();
    }

    /** The bits as sixteen numbers of sheet s. */
    private static void write(AGapEveryTwenty x, int s, int bits) {
        int[] v = new int[16];
        for (int p = 0; p < 16; p++) {
            v[p] = bits >> p & 1;
        }
        Tape.write(x, s, v);
    }

    private static void judges() {
        AGapEveryTwenty x = new AGapEveryTwenty();
        x.set(1, 0b0111_0110);
        due.is("sheet -1", x.judge(-1, 0, 0), BAD);
        due.is("sheet 4", x.judge(4, 0, 0), BAD);
        due.is("missing, ahead of the place", x.judge(0, 16, 0), -11);
        x.sheet(0, 2, 15);
        due.is("tells 15, ahead of the place", x.judge(0, 16, 0), BAD);
        for (int n : new int[] {0, 1, 17, 40}) {
            x.sheet(0, 2, n);
            due.is("tells " + n, x.judge(0, 1, 0), BAD);
        }
        write(x, 0, 0b0111_0000);
        due.is("as by the push", x.judge(0, 5, 0), -1);
        due.is("otherwise to the right", x.judge(0, 5, 1), 4);
        due.is("otherwise to the left", x.judge(0, 5, 2), 6);
        due.is("otherwise from another", x.judge(0, 1, 0), 1);
        due.is("otherwise, none fell", x.judge(0, 3, 0), 4);
        x.cell(0, 15, 2);
        due.is("2 is neither", x.judge(0, 5, 0), 15);
        x.cell(0, 5, 2);
        due.is("2 is not 1", x.judge(0, 5, 0), 5);
        due.is("place -1", x.judge(0, -1, 0), -5);
        due.is("place 16 ahead of the side", x.judge(0, 16, 3), -5);
        due.is("side -1", x.judge(0, 0, -1), -7);
        due.is("side 3", x.judge(0, 0, 3), -7);
        x.sheet(1, 0, 16);
        due.is("none told, none falls", x.judge(1, 0, 0), -1);
        x.sheet(1, 1, 16);
        due.is("a sheet of shorts", x.judge(1, 1, 0), 1);
    }

    private static void origins() {
        AGapEveryTwenty x = new AGapEveryTwenty();
        x.set(1, 0b0111_0110);
        due.is("sheet -1", x.origin(-1, 9), BAD);
        due.is("sheet 4", x.origin(4, 0), BAD);
        due.is("missing", x.origin(0, 9), -11);
        x.sheet(0, 2, 40);
        due.is("tells 40", x.origin(0, 9), BAD);
        write(x, 0, 0b0111_0000);
        due.is("to both sides", x.origin(0, 0), 0b0111_0000);
        due.is("to the right", x.origin(0, 1), 0b0001_0000);
        due.is("to the left", x.origin(0, 2), 0b0100_0000);
        due.is("side -1", x.origin(0, -1), -7);
        due.is("side 3", x.origin(0, 3), -7);
        write(x, 0, 0);
        due.is("none told: only those that stand", x.origin(0, 0), 0);
        x.set(1, 0b1111);
        write(x, 0, 0b1111);
        due.is("from place 0 to the right", x.origin(0, 1), 1);
        due.is("to the left, from the last", x.origin(0, 2), 0b1000);
        write(x, 0, 0b1110);
        due.is("otherwise at place 0", x.origin(0, 1), 0b0010);
        due.is("otherwise at place 0, to the left", x.origin(0, 2), 0);
    }

    /** Two by two stand, with one place and with two between. */
    private static void byReach() {
        int stands = 0b1100_1101_1000_0110;
        int[][] falls = {{0b0110, 0b0110, 0b0110}, {0b0001_1000_0000, 0b1101_1000_0000, 0b1100_1101_1000_0000}};
        int[] from = {1, 7};
        for (int reach = 0; reach < 3; reach++) {
            for (int k = 0; k < 2; k++) {
                AGapEveryTwenty x = new AGapEveryTwenty();
                x.set(1, stands);
                x.set(3, reach);
                write(x, 0, falls[k][reach]);
                due.is("judge by reach " + reach, x.judge(0, from[k], 1), -1);
                due.is("origin by reach " + reach, x.origin(0, 1), 1 << from[k]);
                due.is("film by reach " + reach, x.film(1, from[k], 1), 16);
                for (int other = 0; other < 3; other++) {
                    x.set(3, other);
                    int unlike = falls[k][reach] ^ falls[k][other];
                    int first = unlike == 0 ? -1 : Integer.numberOfTrailingZeros(unlike);
                    due.is("judge by reach " + other + " for " + reach, x.judge(0, from[k], 1), first);
                    due.is("judge of the film by reach " + other + " for " + reach, x.judge(1, from[k], 1), first);
                    due.is("origin by reach " + other + " for " + reach, x.origin(0, 1), unlike == 0 ? 1 << from[k] : 0);
                    int sides = Integer.bitCount(falls[k][reach]) > 1 && unlike == 0 ? 0b011 : 0;
                    due.is("sides by reach " + other + " for " + reach, x.how(0, from[k], 0), sides);
                    int reaches = 0;
                    for (int i = 0; i < 3; i++) {
                        reaches |= falls[k][i] == falls[k][reach] ? 1 << i : 0;
                    }
                    due.is("reaches, whatever the reach is", x.how(0, from[k], 11), reaches);
                }
            }
        }
    }

    private static void hows() {
        AGapEveryTwenty x = new AGapEveryTwenty();
        x.set(1, 0b0101_0110_0111);
        due.is("sheet -1", x.how(-1, 16, 9), BAD);
        due.is("missing", x.how(0, 16, 9), -11);
        x.sheet(0, 0, 1);
        due.is("tells 1", x.how(0, 16, 9), BAD);
        write(x, 0, 0b0111);
        due.is("from the left end: sides", x.how(0, 0, 0), 0b011);
        due.is("no matter which side", x.how(0, 0, 2), 0b011);
        due.is("from the middle: sides", x.how(0, 1, 1), 0b001);
        due.is("reaches to both sides", x.how(0, 0, 10), 0b011);
        due.is("reaches to the right", x.how(0, 0, 11), 0b011);
        write(x, 0, 1);
        due.is("reaches to the left", x.how(0, 0, 12), 0b111);
        write(x, 0, 0b0101_0110_0111);
        due.is("a reach of 2", x.how(0, 0, 11), 0b100);
        due.is("as it is", x.how(0, 0, 1), 0);
        x.set(3, 2);
        due.is("as it is by 2", x.how(0, 0, 1), 0b011);
        due.is("the reach was not changed", x.count(3), 2);
        write(x, 0, 0);
        due.is("none stands there: sides", x.how(0, 15, 0), 0b111);
        due.is("none stands there: reaches", x.how(0, 15, 12), 0b111);
        write(x, 0, 0b0101_0110_0111);
        x.set(3, 0);
        due.is("sort 1 to both sides", x.how(0, 10, 10), 0b100);
        due.is("place -1", x.how(0, -1, 0), -5);
        due.is("place 16 ahead of sortSide", x.how(0, 16, 99), -5);
        for (int bad : new int[] {-1, 3, 9, 13, 19, 20, 21, 22, 100, -10, Integer.MAX_VALUE, Integer.MIN_VALUE}) {
            due.is("sortSide " + bad, x.how(0, 0, bad), -7);
        }
    }

    /** A row by which FALLS are unlike, told by sheet 0. */
    private static AGapEveryTwenty unlike() {
        AGapEveryTwenty x = new AGapEveryTwenty();
        for (int p = 0; p < 16; p++) {
            x.lay(p, p % 6, p % 10);
        }
        Tape.obey(x, "falls 7+place+beside;takes 1;closes 1;");
        int[] told = new int[16];
        for (int p = 0; p < 16; p++) {
            told[p] = x.told(p, 2);
        }
        Tape.write(x, 0, told);
        return x;
    }

    private static void checks() {
        AGapEveryTwenty x = unlike();
        due.is("as told", x.check(0), -1);
        x.cell(0, 15, x.told(15, 2) + 1);
        due.is("the last is otherwise", x.check(0), 15);
        x.cell(0, 3, -1);
        due.is("the first that is otherwise", x.check(0), 3);
        due.is("sheet -1", x.check(-1), BAD);
        due.is("sheet 4", x.check(4), BAD);
        due.is("missing", x.check(1), -11);
        x.sheet(1, 2, 15);
        due.is("tells 15", x.check(1), BAD);
        x.sheet(1, 2, 17);
        due.is("tells 17", x.check(1), BAD);
    }

    private static void kinds() {
        AGapEveryTwenty x = unlike();
        x.lay(2, 0, 4);
        int[] falls = {9, 13, 18, 13, 18, 1};
        for (int kind = 0; kind < 6; kind++) {
            int bits = 0;
            for (int other = 0; other < 6; other++) {
                bits |= falls[other] == falls[kind] ? 1 << other : 0;
            }
            x.cell(0, 2, falls[kind]);
            due.is("kinds by which it falls " + falls[kind], x.kinds(0, 2, 0), bits);
        }
        due.is("of a spot no matter which more, otherwise", x.kinds(0, 2, 1), 0);
        x.cell(0, 2, 9);
        due.is("of a spot no matter which more", x.kinds(0, 2, 1), 1023);
        x.lay(2, 1, 0);
        x.cell(0, 2, 18);
        due.is("of a bend one more", x.kinds(0, 2, 1), 1 << 9);
        x.lay(2, 5, 0);
        x.cell(0, 2, 1);
        due.is("of a sure some", x.kinds(0, 2, 1), 0b11_1111 << 3 & 1023 & ~(1 << 8) | (9 / 10 == 1 ? 1 << 8 : 0));
        due.is("nothing has changed", x.told(2, 0) * 10 + x.told(2, 1), 50);
        Tape.obey(x, "falls more*more;takes 1;closes 1;");
        x.lay(2, 0, 3);
        x.cell(0, 2, 49);
        due.is("more that a text names", x.kinds(0, 2, 1), 1 << 7);
        due.is("FALLS as before", x.told(2, 2), 9);
        due.is("sheet -1", x.kinds(-1, 16, 2), BAD);
        due.is("missing", x.kinds(1, 16, 2), -11);
        x.sheet(1, 2, 15);
        due.is("tells 15", x.kinds(1, 16, 2), BAD);
        due.is("place -1", x.kinds(0, -1, 0), -5);
        due.is("place 16 ahead of the sort", x.kinds(0, 16, 2), -5);
        due.is("sort -1", x.kinds(0, 0, -1), -7);
        due.is("sort 2", x.kinds(0, 0, 2), -7);
    }

    private static void laws() {
        AGapEveryTwenty x = new AGapEveryTwenty();
        x.film(0, 16, 0);
        due.is("the first text", x.laws(0), 1);
        Tape.obey(x, "falls 3;takes 1;closes 1;");
        Tape.read(x, "falls 2+0*place;takes 9;closes 9;");
        Tape.read(x, "falls 2+(place=15);takes 9;closes 9;");
        due.is("two of four", x.laws(0), 0b0101);
        due.is("the law is as before", x.count(5), 1);
        due.is("FALLS as before", x.told(0, 2), 3);
        x.cell(0, 15, 3);
        due.is("another one", x.laws(0), 0b1000);
        x.cell(0, 0, 77);
        due.is("none", x.laws(0), 0);
        Tape.read(x, "falls 3;takes 9;closes 9;");
        Tape.read(x, "falls 7;takes 9;closes 9;");
        x.force(5);
        x.film(0, 16, 0);
        due.is("the last of six", x.laws(0), 0b100000);
        x.force(4);
        x.film(0, 16, 0);
        due.is("two of six", x.laws(0), 0b010010);
        due.is("sheet -1", x.laws(-1), BAD);
        due.is("sheet 4", x.laws(4), BAD);
        due.is("missing", x.laws(1), -11);
        x.sheet(1, 2, 17);
        due.is("tells 17", x.laws(1), BAD);
    }

    private static void amisses() {
        AGapEveryTwenty x = unlike();
        due.is("as told", x.amiss(0), 0);
        x.cell(0, 3, x.told(3, 2) + 5);
        x.cell(0, 9, x.told(9, 2) - 4);
        due.is("both ways", x.amiss(0), 9);
        x.cell(0, 3, Integer.MAX_VALUE);
        x.cell(0, 4, Integer.MIN_VALUE);
        due.is("far apart", x.amiss(0), (long) Integer.MAX_VALUE - x.told(3, 2) - Integer.MIN_VALUE + x.told(4, 2) + 4);
        due.is("sheet -1", x.amiss(-1), NO);
        due.is("sheet 4", x.amiss(4), NO);
        due.is("missing", x.amiss(1), NO);
        x.sheet(1, 2, 15);
        due.is("tells 15", x.amiss(1), NO);
    }

    private static void films() {
        AGapEveryTwenty x = unlike();
        x.set(1, 0b0111_0110);
        x.set(3, 1);
        for (int p = 0; p < 16; p++) {
            for (int side = 0; side < 3; side++) {
                due.is("film(3, " + p + ", " + side + ")", x.film(3, p, side), 16);
                due.is("judge of it", x.judge(3, p, side), -1);
            }
        }
        due.is("nothing falls, truly", x.count(1), 0b0111_0110);
        due.is("film of FALLS", x.film(3, 16, 1), 16);
        due.is("check of it", x.check(3), -1);
        due.is("they are bytes", x.layBy(3, 0, 0, 0), 0);
        x.sheet(3, 2, 7);
        due.is("instead of ints", x.film(3, 1, 1), 16);
        due.is("bytes now", x.copy(3, 0, 3, 0, 16), 16);
        due.is("bytes, not ints", x.layBy(3, 2, 0, 0), -13);
        due.is("sheet -1", x.film(-1, 17, 3), BAD);
        due.is("sheet 4", x.film(4, 0, 0), BAD);
        due.is("place -1", x.film(0, -1, 0), -5);
        due.is("place 17 ahead of the side", x.film(0, 17, 3), -5);
        due.is("side -1", x.film(0, 0, -1), -7);
        due.is("side 3", x.film(0, 16, 3), -7);
        due.is("sheet 0 is as before", x.check(0), -1);
    }

    private static long planAsKept() {
        AGapEveryTwenty x = new AGapEveryTwenty();
        Tape.obey(x, "falls 9;takes 8;closes 7;");
        x.lay(3, 4, 5);
        x.set(0, 6);
        x.set(2, 1);
        return x.plan();
    }

    private static void images() {
        AGapEveryTwenty x = new AGapEveryTwenty();
        due.is("no image", x.back(), STATE);
        Tape.read(x, "falls 9;takes 8;closes 7;");
        x.lay(3, 4, 5);
        x.set(0, 6);
        x.set(1, 7);
        x.set(2, 1);
        x.set(3, 2);
        x.force(1);
        due.is("image()", x.image(), 3);
        x.set(1, 65535);
        due.is("image() of all", x.image(), 16);
        x.set(1, 1 << 15);
        due.is("image() of the last", x.image(), 1);
        due.is("back() to the last", x.back(), 1);
        x.set(1, 7);
        due.is("image() again", x.image(), 3);
        x.lay(3, 1, 1);
        x.lay(0, 2, 2);
        x.set(0, 0);
        x.set(1, 65535);
        x.set(2, 2);
        x.set(3, 0);
        x.force(0);
        Tape.read(x, "falls 5;takes 5;closes 5;");
        Tape.feed(x, "abc");
        Tape.write(x, 0, 1, 2, 3);
        for (int i = 0; i < 2; i++) {
            due.is("back()", x.back(), 3);
            int[] want = {6, 7, 1, 2, 3, 1, 3};
            for (int what = 0; what < 7; what++) {
                due.is("count(" + what + ") of the image", x.count(what), want[what]);
            }
            due.is("its plan", x.plan(), planAsKept());
            due.is("KIND", x.told(3, 0), 4);
            due.is("MORE", x.told(3, 1), 5);
            due.is("FALLS", x.told(3, 2), 18);
            due.is("TAKES", x.told(3, 3), 16);
            due.is("another KIND", x.told(0, 0), 0);
            due.is("another MORE", x.told(0, 1), 0);
            due.is("sheets are kept apart", x.cell(0, 2, 3), 1);
            x.lay(3, 0, 0);
            x.force(2);
            due.is("another law", x.told(3, 2), 5);
            x.tip(1, 0);
        }
        due.is("a new image", x.image(), 0);
        x.set(1, 1);
        due.is("back to that", x.back(), 0);
        due.is("its KIND", x.told(3, 0), 0);
    }
}
