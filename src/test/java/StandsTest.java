/** Promises 19 to 24: what stands, and rows by lots. */
public final class StandsTest {
    private static final int BAD = AGapEveryTwenty.BAD, STATE = AGapEveryTwenty.STATE;
    private static final long NO = AGapEveryTwenty.NO;
    private static final Due due = new Due("StandsTest");

    public static void main(String[] args) {
        pushes();
        reaches();
        stopped();
        fars();
        tips();
        puts();
        draws();
        byReach();
        byGaps();
        odds();
        due.end();
    }

    private static AGapEveryTwenty standing(int stands) {
        AGapEveryTwenty x = new AGapEveryTwenty();
        x.set(1, stands);
        return x;
    }

    private static void pushes() {
        AGapEveryTwenty x = standing(0b0001_1110_0111_0010);
        due.is("to both sides", x.push(5, 0), 0b0111_0000);
        due.is("to the right", x.push(5, 1), 0b0110_0000);
        due.is("to the left", x.push(5, 2), 0b0011_0000);
        due.is("one alone", x.push(1, 0), 0b0010);
        due.is("none stands there", x.push(0, 0), 0);
        due.is("nothing has changed", x.count(1), 0b0001_1110_0111_0010);
        due.is("all, from an end", standing(65535).push(15, 2), 65535);
        due.is("all, to the other side", standing(65535).push(15, 1), 32768);
        due.is("place -1", x.push(-1, 0), -5);
        due.is("place 16 ahead of the side", x.push(16, 3), -5);
        due.is("side -1", x.push(0, -1), -7);
        due.is("side 3", x.push(0, 3), -7);
    }

    private static void reaches() {
        AGapEveryTwenty x = standing(0b1000_1001_0110_1011);
        int[] right = {0b0011, 0b0001_0110_1011, 0b1001_0110_1011};
        x.set(3, 0);
        due.is("reach 0 to the right", x.push(0, 1), right[0]);
        x.set(3, 1);
        due.is("reach 1 to the right", x.push(0, 1), right[1]);
        due.is("reach 1 to the left", x.push(8, 2), 1 << 8 | right[1]);
        x.set(3, 2);
        due.is("reach 2 to the right", x.push(0, 1), right[2]);
        due.is("not over 3", x.push(15, 2), 1 << 15);
        due.is("reach 2 to both sides", x.push(8, 0), right[2]);
        x.set(0, 65535);
        due.is("gaps do not matter", x.push(8, 0), right[2]);
    }

    private static void stopped() {
        AGapEveryTwenty x = standing(0b0111_1111);
        x.lay(3, 4, 0);
        due.is("as far as a stop, to the right", x.push(0, 1), 0b0111);
        due.is("as far as a stop, to the left", x.push(6, 2), 0b0111_0000);
        due.is("from a stop nowhere", x.push(3, 0), 0b1000);
        x.set(1, 0b0111_0111);
        x.set(3, 0);
        due.is("reach 0 not over an empty one", x.push(0, 1), 0b0111);
        x.set(3, 1);
        due.is("over an empty stop", x.push(0, 1), 0b0111_0111);
    }

    private static void fars() {
        AGapEveryTwenty x = standing(0);
        due.is("nothing stands", x.far(0), -1);
        due.is("nothing stands: how many", x.far(1), -1);
        due.is("BAD though nothing stands", x.far(2), BAD);
        due.is("what -1", x.far(-1), BAD);
        x.set(1, 0b0111_0110_0111_0000);
        due.is("of like ones the first", x.far(0), 4);
        due.is("how many", x.far(1), 3);
        x.set(3, 1);
        due.is("by the reach", x.far(1), 5);
        due.is("by the reach: where", x.far(0), 9);
        x.lay(10, 4, 0);
        due.is("by a stop", x.far(0), 4);
        x.set(1, 1 << 15);
        due.is("one alone", x.far(0), 15);
        due.is("one alone: how many", x.far(1), 1);
        due.is("from place 0", standing(65535).far(0), 0);
        due.is("from place 0: how many", standing(65535).far(1), 16);
    }

    private static void tips() {
        AGapEveryTwenty x = standing(0b0001_1110_0111_0010);
        due.is("how many fall", x.tip(5, 1), 2);
        due.is("they are down", x.count(1), 0b0001_1110_0001_0010);
        due.is("none there", x.tip(5, 1), 0);
        due.is("both sides", x.tip(10, 0), 4);
        due.is("what stands", x.count(1), 0b0001_0010);
        AGapEveryTwenty all = standing(65535);
        due.is("the last alone", all.tip(15, 1), 1);
        due.is("all but the last", all.count(1), 32767);
        due.is("all that stand yet", all.tip(0, 1), 15);
        due.is("none", all.count(1), 0);
        due.is("all sixteen", standing(65535).tip(7, 0), 16);
        AGapEveryTwenty over = standing(0b1001_0000_0101_0001);
        over.set(3, 1);
        due.is("by the reach", over.tip(4, 0), 2);
        due.is("by the reach: what stands", over.count(1), 0b1001_0000_0000_0001);
        over.set(3, 2);
        due.is("by a reach of 2", over.tip(15, 0), 2);
        due.is("by a reach of 2: what stands", over.count(1), 1);
        due.is("place -1", x.tip(-1, 0), -5);
        due.is("place 16 ahead of the side", x.tip(16, 5), -5);
        due.is("side -1", x.tip(1, -1), -7);
        due.is("side 3", x.tip(1, 3), -7);
        due.is("nothing has changed", x.count(1), 0b0001_0010);
    }

    private static int lot(int seed) {
        return (int) ((seed + 1L) * 48271 % 2147483647 % 100);
    }

    /** A seed by which the first lot, modulo 100, is so. */
    private static int seedOf(int hundredth) {
        int seed = 0;
        while (lot(seed) != hundredth) {
            seed++;
        }
        return seed;
    }

    private static void puts() {
        AGapEveryTwenty x = standing(0b0011_0110);
        Tape.obey(x, "falls 40+beside;takes 1;closes 1;");
        due.is("just stands: beside 4", x.put(3, seedOf(44)), -1);
        due.is("it stands", x.count(1), 0b0011_1110);
        due.is("one stands there", x.put(3, 0), STATE);
        x.set(1, 0b0011_0110);
        due.is("just falls: with 4", x.put(3, seedOf(43)), 4);
        due.is("all are down", x.count(1), 0);
        due.is("falls alone", x.put(0, seedOf(39)), 0);
        due.is("none stands", x.count(1), 0);
        x.set(1, 0b0110_0110);
        x.lay(3, 4, 0);
        due.is("at a stop none falls with it", x.put(3, seedOf(79)), 0);
        due.is("they stand", x.count(1), 0b0110_0110);
        due.is("above twice as much", x.put(3, seedOf(80)), -1);
        x.lay(3, 0, 0);
        x.set(1, 0b0110_0110);
        x.set(3, 1);
        due.is("over an empty place", x.put(3, seedOf(43)), 4);
        due.is("seed 99999", x.put(9, 99999), lot(99999) < 40 ? 0 : -1);
        surely();
        due.is("place -1", x.put(-1, 0), -5);
        due.is("place 16 ahead of the seed", x.put(16, -1), -5);
        due.is("seed -1", x.put(0, -1), -7);
        due.is("seed 100000", x.put(0, 100000), -7);
        x.set(1, 1);
        due.is("the seed ahead of STATE", x.put(0, 100000), -7);
        due.is("STATE", x.put(0, 0), STATE);
    }

    /** FALLS at its bounds: by 0 none falls, by 99 all but one of a hundred. */
    private static void surely() {
        AGapEveryTwenty x = standing(0b0110);
        Tape.obey(x, "falls 99*(place=3);takes 1;closes 1;");
        due.is("FALLS 0, the least lot", x.put(0, seedOf(0)), -1);
        due.is("FALLS 99, the most lot but one", x.put(3, seedOf(98)), 3);
        due.is("nothing stands", x.count(1), 0);
        due.is("FALLS 99, the most lot", x.put(3, seedOf(99)), -1);
        due.is("one stands", x.count(1), 8);
        AGapEveryTwenty y = standing(0b1111_1111_1111_1110);
        Tape.obey(y, "falls 10*(beside=15);takes 1;closes 1;");
        due.is("all others beside, to the right", y.put(0, seedOf(9)), 15);
        due.is("all are down", y.count(1), 0);
        y.set(1, 0b0111_1111_1111_1111);
        due.is("all others beside, to the left", y.put(15, seedOf(10)), -1);
        due.is("all stand", y.count(1), 65535);
    }

    private static void draws() {
        AGapEveryTwenty x = new AGapEveryTwenty();
        due.is("how many lots", x.drawn(7, 60, 0), 23);
        due.is("what stands then", x.drawn(7, 60, 1), 65535);
        due.is("how often it fell", x.drawn(7, 60, 2), 2);
        due.is("nothing stands, truly", x.count(1), 0);
        due.is("no lots", x.drawn(7, 0, 1), 0);
        due.is("no lots: how many", x.drawn(7, 0, 0), 0);
        Tape.obey(x, "falls 0;takes 1;closes 1;");
        int[][] orders = {{0, 1, 2, 4, 5, 6, 7}, {2, 1, 0, 15, 14, 13, 12}, {1, 2, 0, 9, 10, 8, 11}};
        x.set(0, 8);
        for (int way = 0; way < 3; way++) {
            x.set(2, way);
            int stands = 0;
            for (int n = 1; n <= 7; n++) {
                stands |= 1 << orders[way][n - 1];
                due.is("drawn by " + n + " from " + way, x.drawn(5, n, 1), stands);
            }
            due.is("gaps at last", x.drawn(5, 15, 1), 65535 - 8);
            due.is("all", x.drawn(5, 400, 0), 16);
        }
        x.set(1, 65535 - 3);
        x.set(2, 0);
        due.is("from what stands", x.drawn(5, 1, 1), 65535 - 2);
        x.set(1, 65535);
        due.is("all stand already", x.drawn(5, 400, 0), 0);
        due.is("what stands", x.drawn(5, 400, 1), 65535);
        due.is("it fell", x.drawn(5, 400, 2), 0);
        further();
        gapsAtLast();
        fromTheMiddle();
        neverAll();
        due.is("seed 99999", x.drawn(99999, 0, 0), 0);
        due.is("seed -1", x.drawn(-1, 0, 0), BAD);
        due.is("seed 100000", x.drawn(100000, 0, 0), BAD);
        due.is("n -1", x.drawn(0, -1, 0), BAD);
        due.is("n 401", x.drawn(0, 401, 0), BAD);
        due.is("what -1", x.drawn(0, 0, -1), BAD);
        due.is("what 3", x.drawn(0, 0, 3), BAD);
    }

    /** Rows by gaps at several places, one row asked behind another. */
    private static void gapsAtLast() {
        AGapEveryTwenty x = new AGapEveryTwenty();
        Tape.obey(x, "falls 0;takes 1;closes 1;");
        for (int set : new int[] {0, 1, 1 | 1 << 15, 0b0110_0000_0000_0011, 65535, 0b1000_0000_0010_1001}) {
            x.set(0, set);
            int stands = 65535 - set;
            int n = 16 - Integer.bitCount(set);
            due.is("all but the gaps, by " + set, x.drawn(5, n, 1), stands);
            for (int p = 0; p < 16; p++) {
                if ((set >> p & 1) == 1) {
                    stands |= 1 << p;
                    n++;
                    due.is("gaps from the left on, by " + set, x.drawn(5, n, 1), stands);
                }
            }
        }
    }

    /** From the middle (of two the left one) by turns to the right and to the left, of stretches of each size. */
    private static void fromTheMiddle() {
        String[] orders = {"0", "01", "120", "1203", "23140", "231405", "3425160", "34251607", "453627180", "4536271809"};
        for (String order : orders) {
            AGapEveryTwenty x = new AGapEveryTwenty();
            Tape.obey(x, "falls 0;takes 1;closes 1;");
            x.set(0, 1 << order.length());
            x.set(2, 2);
            int stands = 0;
            for (int i = 0; i < order.length(); i++) {
                stands |= 1 << order.charAt(i) - '0';
                due.is("from the middle of " + order.length() + ", lot " + i, x.drawn(8, i + 1, 1), stands);
            }
        }
    }

    /** 400 lots at most, though all never stand. */
    private static void neverAll() {
        AGapEveryTwenty x = new AGapEveryTwenty();
        Tape.obey(x, "falls 99;takes 1;closes 1;");
        due.is("all lots are had", x.drawn(3, 400, 0), 400);
        int fell = 0;
        long lot = 4;
        for (int i = 0; i < 400; i++) {
            lot = lot * 48271 % 2147483647;
            fell += lot % 100 < 99 ? 1 : 0;
        }
        due.is("it fell", x.drawn(3, 400, 2), fell);
        due.is("odds of none", x.odds(3, 20, 400, 0), 0);
        due.is("odds of none, below", x.odds(3, 20, 400, 1), 1);
    }

    /** By a law by which all fall alike, but at the first, the lots are counted here. */
    private static void further() {
        long lot = 12346;
        int run = 0;
        int fell = 0;
        for (int i = 0; i < 400; i++) {
            AGapEveryTwenty x = new AGapEveryTwenty();
            Tape.obey(x, "falls 50;takes 1;closes 1;");
            lot = lot * 48271 % 2147483647;
            if (lot % 100 < 50) {
                fell++;
                run = 0;
            } else {
                run++;
            }
            due.is("a row that falls whole: " + i, x.drawn(12345, i + 1, 1), (1 << run) - 1);
            due.is("how often: " + i, x.drawn(12345, i + 1, 2), fell);
            if (run == 16) {
                break;
            }
        }
    }

    /** BESIDE in rows by lots is by the reach. Seed 1: its first lots, modulo 100, are below 99. */
    private static void byReach() {
        int twoEmpty = 65535 - (1 << 3) - (1 << 5);
        int[] beside = {4, 14, 14};
        for (int reach = 0; reach < 3; reach++) {
            for (int many = 0; many <= 16; many++) {
                AGapEveryTwenty x = standing(twoEmpty);
                Tape.obey(x, "falls 99*(beside=" + many + ");takes 1;closes 1;");
                x.set(3, reach);
                due.is("one lot by reach " + reach + ", beside " + many, x.drawn(1, 1, 1),
                        many != beside[reach] ? twoEmpty | 1 << 3 : reach == 0 ? twoEmpty & ~31 : 0);
                due.is("it fell", x.drawn(1, 1, 2), many == beside[reach] ? 1 : 0);
                due.is("all by two lots", x.odds(1, 1, 2, 0), many == beside[reach] || many == 15 ? 0 : 1);
            }
        }
        due.is("the first lot", lot(1) < 99 ? 1 : 0, 1);
        due.is("the second lot", 2L * 48271 % 2147483647 * 48271 % 2147483647 % 100 < 99 ? 1 : 0, 1);
        // a stop is beside none, and none is beside it
        AGapEveryTwenty y = standing(twoEmpty);
        y.lay(3, 4, 0);
        Tape.obey(y, "falls 99*(beside=0);takes 1;closes 1;");
        due.is("a stop falls alone", y.drawn(1, 1, 1), twoEmpty);
        due.is("once", y.drawn(1, 1, 2), 1);
        y.lay(3, 0, 0);
        y.lay(4, 4, 0);
        Tape.obey(y, "falls 99*(beside=3);takes 1;closes 1;");
        due.is("as far as a stop", y.drawn(1, 1, 1), twoEmpty & ~7);
    }

    /** Place 5 falls, if it is put up ahead of place 6; as a gap it is put up behind it. */
    private static void byGaps() {
        AGapEveryTwenty x = standing(65535 - (3 << 5));
        Tape.obey(x, "falls 99*(place=5 and beside=5);takes 1;closes 1;");
        due.is("no gap", x.drawn(1, 1, 1), 65535 & ~127);
        due.is("no gap: odds", x.odds(1, 1, 2, 0), 0);
        x.set(0, 1 << 5);
        due.is("a gap", x.drawn(1, 2, 1), 65535);
        due.is("a gap: odds", x.odds(1, 1, 2, 0), 1);
        x.set(0, 0);
        due.is("no gap again: odds", x.odds(1, 1, 2, 0), 0);
        x.set(2, 1);
        due.is("from the right: odds", x.odds(1, 1, 2, 0), 1);
        x.set(2, 2);
        x.set(0, 1 << 12);
        due.is("from the middle, 5: odds", x.odds(1, 1, 2, 0), 0);
        x.set(0, 1 << 15);
        due.is("from the middle, 7: odds", x.odds(1, 1, 2, 0), 1);
        x.lay(6, 4, 0);
        x.set(0, 0);
        due.is("a stop behind it: odds", x.odds(1, 1, 2, 0), 0);
        // what stands truly counts for the odds
        AGapEveryTwenty y = standing(65534);
        Tape.obey(y, "falls 0;takes 1;closes 1;");
        due.is("one lot is enough", y.odds(1, 20, 1, 0), 1);
        due.is("no lot is not", y.odds(1, 20, 0, 0), 0);
        y.set(1, 65532);
        due.is("one is too few", y.odds(1, 20, 1, 0), 0);
        y.set(1, 65535);
        due.is("all stand: no lot is needed", y.odds(1, 20, 0, 0), 1);
    }

    private static void odds() {
        AGapEveryTwenty x = new AGapEveryTwenty();
        due.is("all of 12, above", x.odds(5, 12, 60, 0), 1);
        due.is("all of 12, below", x.odds(5, 12, 60, 1), 1);
        due.is("none, above", x.odds(5, 12, 15, 0), 0);
        due.is("none, below", x.odds(5, 12, 15, 1), 1);
        Tape.obey(x, "falls 5;takes 1;closes 1;");
        for (int seeds = 1; seeds <= 20; seeds++) {
            int full = 0;
            for (int i = 0; i < seeds; i++) {
                full += x.drawn(99979 - 3 + i, 20, 1) == 65535 ? 1 : 0;
            }
            long above = x.odds(99979 - 3, seeds, 20, 0);
            long below = x.odds(99979 - 3, seeds, 20, 1);
            due.is("as a part of " + seeds, above * seeds, full * below);
            for (int d = 2; d <= 20; d++) {
                due.is("lowest terms", above % d == 0 && below % d == 0 ? 1 : 0, 0);
            }
        }
        due.is("400 lots", x.odds(0, 1, 400, 1), 1);
        AGapEveryTwenty z = new AGapEveryTwenty();
        Tape.obey(z, "falls 60*(place=0 and beside=0);takes 1;closes 1;");
        z.set(2, 1);
        due.is("odds asked first, from the right", z.odds(500, 20, 16, 0), 1);
        AGapEveryTwenty y = new AGapEveryTwenty();
        Tape.obey(y, "falls 60*(place=0 and beside=0);takes 1;closes 1;");
        y.plan();
        y.set(2, 1);
        int fromRight = 0;
        for (int i = 0; i < 20; i++) {
            fromRight += y.drawn(500 + i, 16, 1) == 65535 ? 1 : 0;
        }
        due.is("odds from the right", y.odds(500, 20, 16, 0) * 20, fromRight * y.odds(500, 20, 16, 1));
        due.is("from the right place 0 has some beside", fromRight, 20);
        // seeds may pass 99999: one more is as the next first lot
        Tape.obey(x, "falls 50;takes 1;closes 1;");
        x.set(1, 65534);
        int full = 0;
        for (int i = 0; i < 20; i++) {
            full += (99999L + i + 1) * 48271 % 2147483647 % 100 >= 50 ? 1 : 0;
        }
        due.is("past 99999", x.odds(99999, 20, 1, 0) * 20, full * x.odds(99999, 20, 1, 1));
        due.is("past 99999 there are some", full > 0 && full < 20 ? 1 : 0, 1);
        due.is("seed -1", x.odds(-1, 1, 0, 0), NO);
        due.is("seed 100000", x.odds(100000, 1, 0, 0), NO);
        due.is("seeds 0", x.odds(0, 0, 0, 0), NO);
        due.is("seeds 21", x.odds(0, 21, 0, 0), NO);
        due.is("n -1", x.odds(0, 1, -1, 0), NO);
        due.is("n 401", x.odds(0, 1, 401, 0), NO);
        due.is("part -1", x.odds(0, 1, 0, -1), NO);
        due.is("part 2", x.odds(0, 1, 0, 2), NO);
        due.is("nothing stands by it", x.count(1), 65534);
    }
}
