import java.util.ArrayList;
import java.util.List;

/**
 * Of every call: each argument too small and too large, and each two of them at once, so that of several refusals
 * the first one told is seen; a refused call changes nothing. Then what is asked: it changes nothing.
 */
public final class RefusalsTest {
    private static final int BAD = AGapEveryTwenty.BAD, STATE = AGapEveryTwenty.STATE, FULL = AGapEveryTwenty.FULL;
    private static final long NO = AGapEveryTwenty.NO;
    private static final int LEAST = Integer.MIN_VALUE, MOST = Integer.MAX_VALUE;
    /** Sheets of prepared(). */
    private static final int TOLD = 0, NOT_THERE = 1, FIFTEEN = 2, SEVENTEEN = 3;
    private static final int EMPTY_PLACE = 3, FULL_PLACE = 4;
    private static final Due due = new Due("RefusalsTest");

    /** One call, its arguments in a row. */
    interface Call {
        long of(AGapEveryTwenty x, int[] a);
    }

    /** A good number of an argument, and others, each with what refuses it and how early that is told. */
    static final class Arg {
        final int good;
        final List<long[]> bad = new ArrayList<>();

        Arg(int good) {
            this.good = good;
        }

        Arg but(long code, int rank, int... values) {
            for (int v : values) {
                bad.add(new long[] {v, code, rank});
            }
            return this;
        }

        /** From least to most all are good. */
        static Arg of(int least, int most, long code, int rank) {
            return new Arg(most).but(code, rank, least - 1, most + 1, LEAST, MOST);
        }
    }

    public static void main(String[] args) {
        due.is("two that are alike look alike", Look.at(prepared()).equals(Look.at(prepared())) ? 1 : 0, 1);
        theRow();
        plans();
        stands();
        told();
        host();
        stateAndFull();
        asked();
        due.end();
    }

    private static AGapEveryTwenty prepared() {
        AGapEveryTwenty x = new AGapEveryTwenty();
        Tape.obey(x, "falls 9+place+beside;takes 3+more;closes 5+beside;");
        for (int p = 0; p < 16; p++) {
            x.lay(p, p % 6, p * 7 % 10);
        }
        x.set(0, 1 << 5 | 1 << 9);
        x.set(1, 0b0011_0110_1111_0110);
        x.set(2, 1);
        x.set(3, 1);
        x.image();
        x.lay(2, 1, 1);
        x.set(1, 0b0011_0110_1101_0110);
        x.film(TOLD, FULL_PLACE, 0);
        for (int s = FIFTEEN; s <= SEVENTEEN; s++) {
            x.sheet(s, 2, s == FIFTEEN ? 15 : 17);
            for (int i = 0; i < 15; i++) {
                x.cell(s, i, 100 + s * i * i);
            }
        }
        for (int i = 0; i < 31; i++) {
            x.feed(5, 'x', 'y', 'z', ' ', ' ');
        }
        x.feed(3, '(', ')', ';', 0, 0);
        return x;
    }

    private static String name(String call, int[] a) {
        StringBuilder b = new StringBuilder(call).append('(');
        for (int i = 0; i < a.length; i++) {
            b.append(i == 0 ? "" : ", ").append(a[i]);
        }
        return b.append(')').toString();
    }

    private static void one(String name, Call call, int[] a, long want) {
        AGapEveryTwenty x = prepared();
        due.is(name(name, a), call.of(x, a), want);
        due.is(name(name, a) + " changes nothing", Look.at(x).equals(Look.at(prepared())) ? 1 : 0, 1);
    }

    private static void refused(String name, Call call, Arg... args) {
        int[] a = new int[args.length];
        for (int i = 0; i < a.length; i++) {
            a[i] = args[i].good;
        }
        for (int i = 0; i < a.length; i++) {
            for (long[] bad : args[i].bad) {
                a[i] = (int) bad[0];
                one(name, call, a, bad[1]);
                for (int k = i + 1; k < a.length; k++) {
                    for (long[] worse : args[k].bad) {
                        a[k] = (int) worse[0];
                        one(name, call, a, worse[2] < bad[2] ? worse[1] : bad[1]);
                    }
                    a[k] = args[k].good;
                }
            }
            a[i] = args[i].good;
        }
    }

    private static void theRow() {
        refused("count", (x, a) -> x.count(a[0]), Arg.of(0, 6, BAD, 0));
        for (int what = 0; what < 4; what++) {
            refused("set", (x, a) -> x.set(a[0], a[1]), new Arg(what).but(-5, 0, -1, 4, LEAST, MOST),
                    Arg.of(0, what < 2 ? 65535 : 2, -7, 1));
        }
        Arg v = Arg.of(0, 255, BAD, 0);
        // prepared() has fed 158 bytes, so that 2 have room
        refused("feed", (x, a) -> x.feed(a[0], a[1], a[2], a[3], a[4], a[5]),
                new Arg(2).but(BAD, 0, 0, -1, 6, LEAST, MOST).but(FULL, 1, 3, 4, 5), v, v, v, v, v);
        refused("force", (x, a) -> x.force(a[0]), Arg.of(0, 1, BAD, 0));
        refused("asks", (x, a) -> x.asks(a[0], a[1], a[2]), Arg.of(0, 2, BAD, 0), Arg.of(0, 15, BAD, 0),
                Arg.of(0, 16, BAD, 0));
        refused("lay", (x, a) -> x.lay(a[0], a[1], a[2]), Arg.of(0, 15, -5, 0), Arg.of(0, 5, -7, 1), Arg.of(0, 9, -7, 1));
        refused("told", (x, a) -> x.told(a[0], a[1]), Arg.of(0, 15, -5, 0), Arg.of(0, 5, -7, 1));
    }

    private static void plans() {
        refused("stretch", (x, a) -> x.stretch(a[0], a[1]), Arg.of(0, 65535, BAD, 0), Arg.of(0, 2, BAD, 0));
        refused("mean", (x, a) -> x.mean(a[0], a[1]), Arg.of(0, 65535, NO, 0), Arg.of(0, 2, NO, 0));
        refused("best", (x, a) -> x.best(a[0], a[1]), new Arg(1).but(NO, 0, -1, 5, LEAST, MOST), Arg.of(0, 1, NO, 0));
        refused("every", (x, a) -> x.every(a[0]), Arg.of(0, 1, NO, 0));
        refused("which", (x, a) -> x.which(a[0]), Arg.of(0, 1, NO, 0));
        refused("stop", (x, a) -> x.stop(a[0]), Arg.of(0, 1, NO, 0));
        refused("dear", (x, a) -> x.dear(a[0]), Arg.of(0, 1, NO, 0));
        refused("likely", (x, a) -> x.likely(a[0], a[1]), Arg.of(0, 65535, NO, 0), Arg.of(0, 2, NO, 0));
    }

    private static void stands() {
        refused("push", (x, a) -> x.push(a[0], a[1]), Arg.of(0, 15, -5, 0), Arg.of(0, 2, -7, 1));
        refused("far", (x, a) -> x.far(a[0]), Arg.of(0, 1, BAD, 0));
        refused("tip", (x, a) -> x.tip(a[0], a[1]), Arg.of(0, 15, -5, 0), Arg.of(0, 2, -7, 1));
        refused("put", (x, a) -> x.put(a[0], a[1]),
                new Arg(EMPTY_PLACE).but(-5, 0, -1, 16, LEAST, MOST).but(STATE, 2, FULL_PLACE),
                Arg.of(0, 99999, -7, 1));
        refused("drawn", (x, a) -> x.drawn(a[0], a[1], a[2]), Arg.of(0, 99999, BAD, 0), Arg.of(0, 400, BAD, 0),
                Arg.of(0, 2, BAD, 0));
        refused("odds", (x, a) -> x.odds(a[0], a[1], a[2], a[3]), Arg.of(0, 99999, NO, 0), Arg.of(1, 20, NO, 0),
                Arg.of(0, 400, NO, 0), Arg.of(0, 1, NO, 0));
    }

    /** A sheet that tells of each place; it is refused in three steps. */
    private static Arg toldSheet() {
        return new Arg(TOLD).but(BAD, 0, -1, 4, LEAST, MOST).but(-11, 1, NOT_THERE).but(BAD, 2, FIFTEEN, SEVENTEEN);
    }

    private static void told() {
        Arg place = Arg.of(0, 15, -5, 3);
        Arg side = Arg.of(0, 2, -7, 4);
        refused("judge", (x, a) -> x.judge(a[0], a[1], a[2]), toldSheet(), place, side);
        refused("origin", (x, a) -> x.origin(a[0], a[1]), toldSheet(), side);
        refused("how", (x, a) -> x.how(a[0], a[1], a[2]), toldSheet(), place,
                new Arg(12).but(-7, 4, -1, 3, 9, 13, 19, 20, 22, -10, LEAST, MOST));
        refused("check", (x, a) -> x.check(a[0]), toldSheet());
        refused("kinds", (x, a) -> x.kinds(a[0], a[1], a[2]), toldSheet(), place, Arg.of(0, 1, -7, 4));
        refused("laws", (x, a) -> x.laws(a[0]), toldSheet());
        refused("amiss", (x, a) -> x.amiss(a[0]),
                new Arg(TOLD).but(NO, 0, -1, 4, LEAST, MOST, NOT_THERE, FIFTEEN, SEVENTEEN));
        for (int s = 0; s < 4; s++) {
            refused("film", (x, a) -> x.film(a[0], a[1], a[2]), new Arg(s).but(BAD, 0, -1, 4, LEAST, MOST),
                    Arg.of(0, 16, -5, 1), Arg.of(0, 2, -7, 2));
        }
    }

    private static void host() {
        Arg anySheet = new Arg(FIFTEEN).but(BAD, 0, -1, 4, LEAST, MOST);
        refused("sheet", (x, a) -> x.sheet(a[0], a[1], a[2]), anySheet, new Arg(1).but(BAD, 0, -2, 3, LEAST, MOST),
                new Arg(40).but(BAD, 0, 41, MOST).but(-14, 1, -1, LEAST));
        Arg there = new Arg(TOLD).but(BAD, 0, -1, 4, LEAST, MOST).but(-11, 1, NOT_THERE);
        refused("cell", (x, a) -> x.cell(a[0], a[1], 7), there, Arg.of(0, 15, -12, 2));
        // sheet 0 has bytes, 2 and 3 have ints
        Arg from = new Arg(15).but(-12, 3, -1, 16, 17, LEAST, MOST);
        Arg many = new Arg(1).but(-12, 3, -1, 17, LEAST, MOST);
        Arg unlike = new Arg(TOLD).but(BAD, 0, -1, 4, LEAST, MOST).but(-11, 1, NOT_THERE).but(-13, 2, SEVENTEEN);
        refused("copy", (x, a) -> x.copy(a[0], a[1], a[2], a[3], a[4]), unlike, from, there, from, many);
        refused("copy", (x, a) -> x.copy(a[0], a[1], a[2], a[3], a[4]), there, from, unlike, from, many);
        Arg at = new Arg(13).but(-12, 3, -1, 14, 15, 16, LEAST, MOST);
        Arg triples = new Arg(1).but(BAD, 0, -1, 14, LEAST, MOST);
        refused("layBy", (x, a) -> x.layBy(a[0], a[1], a[2], a[3]), unlike, new Arg(0).but(BAD, 0, -1, 3, LEAST, MOST), at,
                triples);
        refused("layBy", (x, a) -> x.layBy(a[0], a[1], a[2], a[3]), there,
                new Arg(0).but(BAD, 0, -1, 3, LEAST, MOST).but(-13, 2, 1, 2), at, triples);
        // no stone stands at place 0; a place is no stone
        refused("taken", (x, a) -> x.taken(a[0], a[1]), new Arg(0).but(-12, 1, -1, 32, LEAST, MOST).but(-11, 2, 16),
                new Arg(0).but(BAD, 0, -1, 7, LEAST, MOST).but(-13, 3, 6, 5));
        refused("taken for", (x, a) -> x.taken(16 + FULL_PLACE, a[0]), new Arg(6).but(-13, 0, 0, 1, 2, 3, 4, 5));
    }

    private static void stateAndFull() {
        AGapEveryTwenty x = new AGapEveryTwenty();
        due.is("back() without an image", x.back(), STATE);
        due.is("back() without an image changes nothing", Look.at(x).equals(Look.at(new AGapEveryTwenty())) ? 1 : 0, 1);
        due.is("text() of a seventh", sixTexts().text(), FULL);
        AGapEveryTwenty y = sixTexts();
        y.text();
        due.is("text() of a seventh changes nothing", Look.at(y).equals(Look.at(sixTexts())) ? 1 : 0, 1);
    }

    private static AGapEveryTwenty sixTexts() {
        AGapEveryTwenty x = new AGapEveryTwenty();
        for (int t = 1; t < 6; t++) {
            Tape.obey(x, "falls " + t + ";takes 2;closes 1;");
        }
        Tape.feed(x, "falls 1;takes 1;closes 1;");
        return x;
    }

    private static void asked() {
        String before = Look.at(prepared());
        for (int i = 0; i < 26; i++) {
            AGapEveryTwenty x = prepared();
            for (int k = 0; k < 48; k++) {
                ask(x, i, k);
            }
            due.is("what is asked changes nothing: " + i, Look.at(x).equals(before) ? 1 : 0, 1);
        }
    }

    private static long ask(AGapEveryTwenty x, int call, int k) {
        int p = k % 16;
        int side = k / 16;
        switch (call) {
            case 0: return x.count(k % 7);
            case 1: return x.asks(side, p, k % 17);
            case 2: return x.told(p, k % 6);
            case 3: return x.stretch(k * 1365, side);
            case 4: return x.mean(k * 1365, side);
            case 5: return x.plan();
            case 6: return x.best(k % 4, side % 2);
            case 7: return x.every(k % 2);
            case 8: return x.which(k % 2);
            case 9: return x.stop(k % 2);
            case 10: return x.dear(k % 2);
            case 11: return x.likely(k * 1365, side);
            case 12: return x.push(p, side);
            case 13: return x.far(k % 2);
            case 14: return x.drawn(2000 * k, 8 * k, side);
            case 15: return x.odds(2000 * k, 1 + k % 20, 8 * k, side % 2);
            case 16: return x.judge(TOLD, p, side);
            case 17: return x.origin(TOLD, side);
            case 18: return x.how(TOLD, p, side);
            case 19: return x.how(TOLD, p, 10 + side);
            case 20: return x.check(TOLD);
            case 21: return x.kinds(TOLD, p, k % 2);
            case 22: return x.kinds(TOLD, p, 1 - k % 2);
            case 23: return x.laws(TOLD);
            case 24: return x.amiss(TOLD);
            default: return x.taken(k % 32, k % 7);
        }
    }
}
