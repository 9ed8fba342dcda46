/** Promises 10 to 18: plans. */
public final class PlansTest {
    private static final int BAD = AGapEveryTwenty.BAD;
    private static final long NO = AGapEveryTwenty.NO;
    private static final Due due = new Due("PlansTest");
    private static AGapEveryTwenty calmed = null;
    private static String calmedLaw = "";

    public static void main(String[] args) {
        stretches();
        ends();
        closings();
        bounds();
        plans();
        bests();
        everies();
        fromEachEnd();
        whiches();
        stops();
        stopsByGaps();
        dears();
        oneByOne();
        atOnce();
        due.end();
    }

    private static AGapEveryTwenty by(String law) {
        AGapEveryTwenty x = new AGapEveryTwenty();
        due.is("reads " + law, Tape.obey(x, law), 1);
        return x;
    }

    /** An object for few calls: one that has had 512 promises nothing. */
    private static AGapEveryTwenty fresh(String law, int turn) {
        if (turn % 64 == 0 || calmed == null || !law.equals(calmedLaw)) {
            calmed = by(law);
            calmedLaw = law;
        }
        return calmed;
    }

    private static void stretches() {
        AGapEveryTwenty x = new AGapEveryTwenty();
        due.is("of like ones the first: how long", x.stretch(0b0000_1000_0100_0000, 0), 6);
        due.is("of like ones the first: where", x.stretch(0b0010_0000_0100_0000, 1), 0);
        due.is("a later, longer one", x.stretch(0b0000_0000_0010_0000, 1), 6);
        due.is("how many", x.stretch(0b1010_0000_0100_0001, 2), 3);
        x.lay(3, 4, 0);
        x.lay(4, 4, 0);
        due.is("two that stop", x.stretch(0, 2), 4);
        due.is("behind those that stop", x.stretch(0, 1), 5);
        due.is("how long behind them", x.stretch(0, 0), 11);
        due.is("one that stops is a gap", x.stretch(0b1000, 2), 3);
        due.is("those that stop alone", x.stretch(65535 - 0b11000, 2), 2);
        due.is("the first of those alone", x.stretch(65535 - 0b11000, 1), 3);
        due.is("its own", x.stretch(65535 - 0b11000, 0), 1);
        due.is("all gaps: how long", x.stretch(65535, 0), 0);
        due.is("all gaps: where", x.stretch(65535, 1), -1);
        due.is("all gaps: how many", x.stretch(65535, 2), 0);
        x.set(0, 65535);
        due.is("not by the gaps that are told", x.stretch(0, 2), 4);
        due.is("set -1", x.stretch(-1, 0), BAD);
        due.is("set 65536", x.stretch(65536, 0), BAD);
        due.is("what -1", x.stretch(0, -1), BAD);
        due.is("what 3", x.stretch(0, 3), BAD);
    }

    private static long up(long t, int takes, int falls) {
        return (t + 1000L * takes) * 100 / (100 - falls);
    }

    private static long upAll(int[] order, int[] falls, int[] takes) {
        long t = 0;
        for (int p : order) {
            t = up(t, takes[p], falls[p]);
        }
        return t;
    }

    /** Falls and takes tell of each place its number, so that the order is seen. */
    private static void ends() {
        AGapEveryTwenty x = by("falls place * 3;takes place + 1;closes 1;");
        int[] falls = new int[16];
        int[] takes = new int[16];
        for (int p = 0; p < 16; p++) {
            falls[p] = 3 * p;
            takes[p] = p + 1;
        }
        int[][] whole = {
            {0, 1, 2, 3, 4, 5, 6, 7, 8, 9, 10, 11, 12, 13, 14, 15},
            {15, 14, 13, 12, 11, 10, 9, 8, 7, 6, 5, 4, 3, 2, 1, 0},
            {7, 8, 6, 9, 5, 10, 4, 11, 3, 12, 2, 13, 1, 14, 0, 15}};
        for (int way = 0; way < 3; way++) {
            due.is("mean(0, " + way + ")", x.mean(0, way), upAll(whole[way], falls, takes));
        }
        x.lay(5, 4, 2);
        falls[5] = 30;
        takes[5] = 11;
        int[][] odd = {{0, 1, 2, 3, 4}, {4, 3, 2, 1, 0}, {2, 3, 1, 4, 0}};
        int[][] even = {{6, 7, 8, 9, 10, 11, 12, 13, 14, 15}, {15, 14, 13, 12, 11, 10, 9, 8, 7, 6},
            {10, 11, 9, 12, 8, 13, 7, 14, 6, 15}};
        for (int way = 0; way < 3; way++) {
            due.is("mean(0, " + way + ") by a stop", x.mean(0, way), upAll(odd[way], falls, takes)
                    + upAll(new int[] {5}, falls, takes) + upAll(even[way], falls, takes));
        }
        // beside are those of the stretch that stand
        AGapEveryTwenty y = by("falls beside * 2;takes 1;closes 1;");
        y.lay(8, 4, 0);
        long eight = 0;
        long seven = 0;
        for (int i = 0; i < 8; i++) {
            eight = up(eight, 1, 2 * i);
            seven = i < 7 ? up(seven, 1, 2 * i) : seven;
        }
        due.is("beside in a stretch", y.mean(0, 1), eight + 4000 + seven);
        due.is("set -1", x.mean(-1, 0), NO);
        due.is("set 65536", x.mean(65536, 0), NO);
        due.is("way -1", x.mean(0, -1), NO);
        due.is("way 3", x.mean(0, 3), NO);
    }

    private static long closed(int takes, int closes, int falls, long again) {
        return (1000L * (takes + closes) * 100 + again * falls) / (100 - falls);
    }

    private static long same(int many) {
        long t = 0;
        for (int i = 0; i < many; i++) {
            t = up(t, 3, 2);
        }
        return t;
    }

    private static void closings() {
        AGapEveryTwenty x = new AGapEveryTwenty();
        due.is("a gap at the left", x.mean(1, 0), same(15) + closed(3, 10, 2, same(15)));
        due.is("a gap at the right", x.mean(32768, 0), same(15) + closed(3, 10, 2, same(15)));
        long both = same(5) + same(10);
        due.is("a gap within", x.mean(1 << 5, 0), both + closed(3, 10, 2, both));
        // two gaps: the second joins what the first has joined
        long left = same(3) + same(4);
        long first = closed(3, 10, 2, left);
        long again = left + first + same(7);
        due.is("two gaps", x.mean(1 << 3 | 1 << 8, 0), left + same(7) + first + closed(3, 10, 2, again));
        // side by side: the first joins nothing to its right
        first = closed(3, 10, 2, same(3));
        again = same(3) + first + same(11);
        due.is("two gaps side by side", x.mean(3 << 3, 0), same(3) + same(11) + first + closed(3, 10, 2, again));
        manyGaps();
        // beside is how many places it joins, the closed ones, too
        AGapEveryTwenty y = by("falls 0;takes 1;closes beside+1;");
        due.is("beside of gaps", y.mean(1 << 3 | 1 << 8, 0), 14000 + (1 + 8) * 1000 + (1 + 16) * 1000);
        due.is("beside of all gaps", y.mean(65535, 0), 16000 + 1000 * 136);
        // what stops is never joined, and a gap that stops joins nothing
        y.lay(4, 4, 0);
        due.is("a stop at its right", y.mean(1 << 3, 0), 14000 + 4000 + 1000 + 4000);
        due.is("a stop at its left", y.mean(1 << 5, 0), 14000 + 4000 + 1000 + 11000);
        due.is("a gap that stops", y.mean(1 << 4, 0), 15000 + 4000 + 1000);
        due.is("gaps beside one that stops", y.mean(7 << 3, 0),
                13000 + (1000 + 4000) + (4000 + 1000) + (1000 + 11000));
        AGapEveryTwenty w = new AGapEveryTwenty();
        due.is("a gap beside the last", w.mean(1 << 14, 0), same(14) + 3061 + closed(3, 10, 2, same(14) + 3061));
        w.lay(4, 4, 0);
        long ruled = up(0, 6, 4);
        due.is("a gap behind a stop", w.mean(1 << 5, 0), same(4) + ruled + same(10) + closed(3, 10, 2, same(10)));
        due.is("a gap farther behind a stop", w.mean(1 << 8, 0),
                same(4) + ruled + same(3) + same(7) + closed(3, 10, 2, same(3) + same(7)));
        due.is("gaps on both sides of a stop", w.mean(1 << 3 | 1 << 8, 0), same(3) + closed(3, 10, 2, same(3))
                + ruled + same(3) + same(7) + closed(3, 10, 2, same(3) + same(7)));
        due.is("a gap that stops between gaps", w.mean(1 << 2 | 1 << 4 | 1 << 6, 0),
                same(2) + same(1) + closed(3, 10, 2, same(2) + same(1)) + closed(6, 10, 4, 0)
                + same(1) + same(9) + closed(3, 10, 2, same(1) + same(9)));
        nothingJoined();
        AGapEveryTwenty z = by("falls beside;takes 1;closes 1;");
        long twice = 0;
        for (int i = 0; i < 4; i++) {
            twice = up(twice, 1, i);
        }
        long many = 0;
        for (int i = 0; i < 11; i++) {
            many = up(many, 1, i);
        }
        due.is("falls by beside of a gap", z.mean(1 << 4, 0), twice + many + closed(1, 1, 15, twice + many));
    }

    /** Each gap joins all that has been joined to its left, with its mean as told at last. */
    private static void manyGaps() {
        int[][] sets = {{2, 6, 11}, {1, 10, 13}, {3, 4, 5, 12, 14}, {0, 5, 6, 13, 15}, {9, 10, 11, 12}};
        for (int[] gaps : sets) {
            AGapEveryTwenty x = by("falls 7+beside*2;takes 1+place;closes 1+beside;");
            int set = 0;
            for (int g : gaps) {
                set |= 1 << g;
            }
            long total = 0;
            long joined = 0;
            int from = 0;
            for (int i = 0; i <= gaps.length; i++) {
                int to = i < gaps.length ? gaps[i] : 16;
                long mean = stretchUp(from, to);
                total += mean;
                if (i > 0) {
                    int gap = gaps[i - 1];
                    long all = closed(1 + gap, 1 + to - 1, 7 + 2 * (to - 1), joined + mean);
                    total += all;
                    joined += mean + all;
                } else {
                    joined = mean;
                }
                from = to + 1;
            }
            due.is("gaps, the first at " + gaps[0] + ", " + gaps.length, x.mean(set, 0), total);
        }
    }

    private static long stretchUp(int from, int to) {
        long t = 0;
        for (int p = from; p < to; p++) {
            t = up(t, 1 + p, 7 + 2 * (p - from));
        }
        return t;
    }

    /** AGAIN is 0 where there is nothing to join: with FALLS 99 a thousandth more would be seen. */
    private static void nothingJoined() {
        long alone = closed(1, 1, 99, 0);
        AGapEveryTwenty x = by("falls 99*(place=0);takes 1;closes 1;");
        due.is("the first gap beside a gap", x.mean(3, 0), 14000 + alone + 2000);
        AGapEveryTwenty y = by("falls 99*(place=14);takes 1;closes 1;");
        due.is("nothing to its right but a gap", y.mean(3 << 14, 0), 14000 + closed(1, 1, 99, 14000) + 2000);
        AGapEveryTwenty z = by("falls 99*(place=15);takes 1;closes 1;");
        due.is("nothing to the right of the last", z.mean(1 << 15, 0), 15000 + closed(1, 1, 99, 15000));
        AGapEveryTwenty w = by("falls 99*(place=6);takes 1;closes 1;");
        w.lay(5, 4, 0);
        due.is("a gap between a stop and a gap", w.mean(3 << 6, 0), 5000 + 4000 + 8000 + alone + 2000);
        AGapEveryTwenty v = by("falls 99*(beside=0);takes 1;closes 1;");
        v.lay(5, 4, 0);
        due.is("all gaps, one of them stops", v.mean(65535, 0), 2 * alone + closed(4, 1, 99, 0) + 13 * 2000);
    }

    private static void bounds() {
        atTheMost();
        AGapEveryTwenty x = by("falls 99;takes 99;closes 99;");
        for (int way = 0; way < 3; way++) {
            due.is("the most, no gap", x.mean(0, way), 1000000000000L);
            due.is("the most, with gaps", x.mean(544, way), 1000000000000L);
        }
        due.is("all gaps", x.mean(65535, 0), 1000000000000L);
        due.is("stop() by plans at the most", x.stop(1) >= 0 ? 1 : 0, 1);
        due.is("at once", x.likely(0, 0), 0);
        AGapEveryTwenty y = by("falls 99*(place<3);takes 99;closes 1;");
        long t = 0;
        for (int p = 0; p < 16; p++) {
            t = up(t, 99, p < 3 ? 99 : 0);
        }
        due.is("below the most", y.mean(0, 0), t);
    }

    /** Means at 1000000000000 are like ones. */
    private static void atTheMost() {
        long most = 1000000000000L;
        AGapEveryTwenty x = by("falls 99;takes 99;closes 99;");
        x.set(0, 1 << 3 | 1 << 9);
        x.set(2, 2);
        due.is("best: the set of fewest", x.best(4, 0), 0);
        due.is("best", x.best(4, 1), most);
        due.is("every: the least k", x.every(0), 2);
        due.is("every", x.every(1), most);
        due.is("which: the least END", x.which(0), 0);
        due.is("which", x.which(1), most);
        due.is("stop: nowhere less", x.stop(0), -1);
        due.is("stop: by nothing", x.stop(1), 0);
        due.is("dear: the first gap", x.dear(0), 3);
        due.is("dear", x.dear(1), most);
        // 9900000, 999900000, 99999900000, 999999990000, and then more than the most
        AGapEveryTwenty y = by("falls 99*(place<3)+90*(place=3);takes 99;closes 1;");
        due.is("one more than the most", y.mean(0, 0), most);
        y.lay(4, 4, 0);
        due.is("all together more than the most", y.mean(0, 0), most);
        AGapEveryTwenty z = by("falls 99*(place<3)+89*(place=3)+50*(place=5);takes 1+98*(place<4);closes 1;");
        long t = 0;
        for (int p = 0; p < 4; p++) {
            t = up(t, 99, p < 3 ? 99 : 89);
        }
        z.lay(4, 4, 0);
        due.is("together less than the most", z.mean(0, 0), t + 4000 + 2000 + 10000);
        due.is("with a gap, less than the most", z.mean(1 << 5, 0), t + 4000 + 10000 + closed(1, 1, 50, 10000));
    }

    private static void plans() {
        AGapEveryTwenty x = new AGapEveryTwenty();
        for (int p = 0; p < 16; p++) {
            x.lay(p, p % 6, p % 10);
        }
        for (int way = 0; way < 3; way++) {
            for (int set = 0; set < 65536; set += 4681) {
                x.set(0, set);
                x.set(2, way);
                due.is("plan() by " + set + " from " + way, x.plan(), x.mean(set, way));
            }
        }
        asTold();
        // names tell what is told, whatever is tried
        AGapEveryTwenty y = by("falls gaps;takes end+1;closes 1;");
        y.set(2, 1);
        due.is("end as told", y.mean(0, 0), 32000);
        y.set(0, 15);
        long t = 0;
        for (int i = 0; i < 16; i++) {
            t = up(t, 2, 4);
        }
        due.is("gaps as told", y.mean(0, 2), t);
    }

    /** gaps, end as they are told, whatever is tried. */
    private static void asTold() {
        AGapEveryTwenty x = by("falls 0;takes 1+gaps;closes 1+end;");
        x.set(0, 7);
        x.set(2, 1);
        due.is("best: gaps as told", x.best(2, 1), 64000);
        due.is("every: gaps, end as told", x.every(1), 64000 + 2000);
        due.is("which: end as told", x.which(1), 64000 + 6000);
        due.is("which: all are like", x.which(0), 0);
        due.is("dear: gaps as told", x.dear(1), 64000 + 4000);
        due.is("mean: gaps, end as told", x.mean(1, 2), 64000 + 2000);
        AGapEveryTwenty y = by("falls 5+gaps+end+reach;takes 1;closes 1;");
        y.set(0, 7);
        y.set(2, 2);
        y.set(3, 2);
        long c = 1000000000L;
        for (int p = 0; p < 16; p++) {
            c = c * 88 / 100;
        }
        due.is("likely: gaps, end, reach as told", y.likely(0, 0), c);
    }

    /** Only by gaps at 3, 7, 11, 15 or the like no four are put up side by side: fewer than four do not do. */
    private static void bestOfFour() {
        AGapEveryTwenty x = by("falls 99*(beside=3);takes 1;closes 1;");
        due.is("four gaps", x.best(4, 0), 1 << 1 | 1 << 5 | 1 << 8 | 1 << 12);
        due.is("four gaps: mean", x.best(4, 1), 12000 + 4 * 2000);
        due.is("three are dearer", x.best(3, 1) > 20000 ? 1 : 0, 1);
        due.is("three at most", Long.bitCount(x.best(3, 0)) <= 3 ? 1 : 0, 1);
        x.set(0, 1 << 1 | 1 << 5 | 1 << 8 | 1 << 12);
        due.is("none at all, whatever the GAPS are", x.best(0, 0), 0);
        due.is("none at all: mean", x.best(0, 1), x.mean(0, 0));
    }

    private static void bests() {
        bestOfFour();
        String law = "falls 30;takes 1;closes 1;";
        long[] leasts = new long[5];
        for (int many = 0; many <= 4; many++) {
            leasts[many] = many == 0 ? Long.MAX_VALUE : leasts[many - 1];
            for (int set = 0; set < 65536; set++) {
                if (Integer.bitCount(set) == many) {
                    leasts[many] = Math.min(leasts[many], fresh(law, set).mean(set, 0));
                }
            }
        }
        AGapEveryTwenty x = by(law);
        for (int many = 0; many <= 4; many++) {
            due.is("best(" + many + ", 1)", x.best(many, 1), leasts[many]);
            due.is("best(" + many + ", 0) has that", x.mean((int) x.best(many, 0), 0), leasts[many]);
        }
        // of like ones that of fewest
        AGapEveryTwenty y = by("falls 0;takes 1;closes 1;");
        due.is("none is best", y.best(4, 0), 0);
        due.is("none is best: mean", y.best(4, 1), 16000);
        // from END
        AGapEveryTwenty z = by("falls place*4;takes 1;closes 1;");
        for (int way = 0; way < 3; way++) {
            z.set(2, way);
            due.is("best from " + way, z.best(2, 1), z.mean((int) z.best(2, 0), way));
            due.is("none is better than that", z.best(2, 1) <= z.mean(1 << 8, way) ? 1 : 0, 1);
        }
        bestAtEdges();
        bestOfLikeOnes();
        due.is("many -1", x.best(-1, 0), NO);
        due.is("many 5", x.best(5, 0), NO);
        due.is("what -1", x.best(0, -1), NO);
        due.is("what 2", x.best(0, 2), NO);
    }

    /** Laws by which all but one set are dear: one with place 0, one with place 15, one of places side by side. */
    private static void bestAtEdges() {
        AGapEveryTwenty x = by("falls 99*(place=0 and beside<15);takes 1;closes 1;");
        due.is("place 0", x.best(1, 0), 1);
        due.is("place 0: mean", x.best(4, 1), 17000);
        AGapEveryTwenty y = by("falls 99*(place=15 and beside<15);takes 1;closes 1;");
        y.set(2, 1);
        due.is("place 15", y.best(4, 0), 1 << 15);
        AGapEveryTwenty z = by("falls 99*(place=7 and not beside=7 or place=8 and not beside=15);takes 1;closes 1;");
        z.set(2, 1);
        due.is("side by side", z.best(2, 0), 3 << 7);
        due.is("side by side: mean", z.best(2, 1), 18000);
    }

    /** No gap and single ones are dear by this law; {1, 15} and {2, 4} are alike, and no other two as good. */
    private static void bestOfLikeOnes() {
        AGapEveryTwenty x = by("falls 90*(beside=15and not(place=4or place=15)or beside=place and(place=3or place=14));"
                + "takes 1;closes 9-8*(place=2and beside=3or place=1and beside=14);");
        due.is("the one", x.mean(1 << 1 | 1 << 15, 0), 26000);
        due.is("the other", x.mean(1 << 2 | 1 << 4, 0), 26000);
        due.is("the one whose lowest place is least", x.best(2, 0), 1 << 1 | 1 << 15);
        due.is("their mean", x.best(2, 1), 26000);
        due.is("with more", x.best(3, 0), 1 << 1 | 1 << 15);
    }

    private static int gapsEvery(int k) {
        int set = 0;
        for (int p = k - 1; p < 16; p += k) {
            set |= 1 << p;
        }
        return set;
    }

    private static void everies() {
        AGapEveryTwenty x = new AGapEveryTwenty();
        due.is("every(0)", x.every(0), 9);
        due.is("every(1)", x.every(1), x.mean(1 << 8, 0));
        AGapEveryTwenty y = by("falls 30;takes 1;closes 1;");
        long least = Long.MAX_VALUE;
        int chosen = 0;
        for (int k = 2; k <= 16; k++) {
            if (y.mean(gapsEvery(k), 0) < least) {
                least = y.mean(gapsEvery(k), 0);
                chosen = k;
            }
        }
        due.is("every(0) of another law", y.every(0), chosen);
        due.is("every(1) of another law", y.every(1), least);
        // of like ones the least: from 9 on there is one gap alone, and here it costs the same anywhere
        AGapEveryTwenty z = by("falls 0;takes 1;closes 5;");
        due.is("of like ones the least", z.every(0), 9);
        due.is("of like ones: mean", z.every(1), 16000 + 5000);
        // 2: a gap at every other place
        AGapEveryTwenty u = by("falls 99*(beside=1);takes 1;closes 1;");
        due.is("2 at first", u.every(0), 2);
        due.is("2 at first: mean", u.every(1), 24000);
        // 16: a gap at place 15
        AGapEveryTwenty v = by("falls 0;takes 1;closes 99*(not place=15)+1;");
        due.is("16 at last", v.every(0), 16);
        due.is("what -1", x.every(-1), NO);
        due.is("what 2", x.every(2), NO);
    }

    /** Laws by which it matters much from which END, and where: each call that tries is compared with mean(). */
    private static void fromEachEnd() {
        String[] laws = {"falls 3*place;takes 1;closes 1;", "falls 45-3*place;takes 1+place;closes 1;",
            "falls beside*(place<6)*4;takes 2;closes 16-place;", "falls (7-place)*(place-7)+60;takes 1;closes place;"};
        for (String law : laws) {
            long[] every = new long[3];
            for (int way = 0; way < 3; way++) {
                AGapEveryTwenty x = by(law);
                x.set(0, 1 << 2 | 1 << 7 | 1 << 11);
                x.set(2, way);
                String at = " from " + way + " by " + law;
                int k = 0;
                for (int i = 16; i >= 2; i--) {
                    k = k == 0 || x.mean(gapsEvery(i), way) <= x.mean(gapsEvery(k), way) ? i : k;
                }
                due.is("every(0)" + at, x.every(0), k);
                due.is("every(1)" + at, x.every(1), x.mean(gapsEvery(k), way));
                every[way] = x.every(1);
                int gap = 0;
                for (int p : new int[] {11, 7, 2}) {
                    gap = gap == 0 || without(x, p, way) <= without(x, gap, way) ? p : gap;
                }
                due.is("dear(0)" + at, x.dear(0), gap);
                due.is("dear(1)" + at, x.dear(1), without(x, gap, way));
                long least = x.mean(0, way);
                int set = 0;
                for (int p = 0; p < 16; p++) {
                    if (x.mean(1 << p, way) < least) {
                        set = 1 << p;
                        least = x.mean(set, way);
                    }
                }
                due.is("best(1, 0)" + at, x.best(1, 0), set);
                due.is("best(1, 1)" + at, x.best(1, 1), least);
                due.is("plan()" + at, x.plan(), x.mean(x.count(0), way));
                int end = 0;
                for (int i = 1; i < 3; i++) {
                    end = x.mean(x.count(0), i) < x.mean(x.count(0), end) ? i : end;
                }
                due.is("which(0)" + at, x.which(0), end);
                due.is("which(1)" + at, x.which(1), x.mean(x.count(0), end));
            }
            due.is("the END matters by " + law, every[0] == every[1] && every[1] == every[2] ? 1 : 0, 0);
        }
    }

    private static long without(AGapEveryTwenty x, int gap, int way) {
        return x.mean(x.count(0) & ~(1 << gap), way);
    }

    private static void whiches() {
        AGapEveryTwenty x = by("falls place;takes 1;closes 1;");
        x.set(2, 1);
        due.is("from the right", x.which(0), 1);
        due.is("from the right: mean", x.which(1), x.mean(0, 1));
        AGapEveryTwenty y = by("falls 20-place;takes 1;closes 1;");
        y.set(2, 1);
        due.is("from the left", y.which(0), 0);
        AGapEveryTwenty z = by("falls (place-7)*(place-7);takes 1;closes 1;");
        long middle = z.mean(0, 2);
        due.is("one of three", z.which(1), Math.min(middle, Math.min(z.mean(0, 0), z.mean(0, 1))));
        AGapEveryTwenty v = new AGapEveryTwenty();
        v.set(0, 544);
        v.set(2, 2);
        due.is("of like ones the least", v.which(0), 0);
        due.is("by GAPS", v.which(1), v.plan());
        due.is("what -1", x.which(-1), NO);
        due.is("what 2", x.which(2), NO);
    }

    private static void stops() {
        AGapEveryTwenty x = new AGapEveryTwenty();
        due.is("stop(0)", x.stop(0), 7);
        due.is("stop(1)", x.stop(1), 1890);
        x.lay(7, 0, 9);
        long[] less = new long[16];
        int first = -1;
        for (int p = 0; p < 16; p++) {
            AGapEveryTwenty y = new AGapEveryTwenty();
            y.lay(7, 0, 9);
            long before = y.plan();
            y.lay(p, 4, p == 7 ? 9 : 0);
            less[p] = before - y.plan();
            if (less[p] > 0 && (first < 0 || less[p] > less[first])) {
                first = p;
            }
        }
        // the first place
        AGapEveryTwenty w = by("falls 99*(place=1 and beside=1);takes 1;closes 1;");
        due.is("a stop at place 0", w.stop(0), 0);
        due.is("a stop at place 0: by how much", w.stop(1), 2000 * 100 + 14000 - (4000 + 15000));
        due.is("with its MORE", x.stop(0), first);
        due.is("by how much", x.stop(1), less[first]);
        due.is("nothing is ruled by it", x.told(first, 0), 0);
        AGapEveryTwenty z = by("falls 0;takes 1;closes 1;");
        AGapEveryTwenty ruled = new AGapEveryTwenty();
        for (int p = 0; p < 16; p++) {
            ruled.lay(p, 4, p % 10);
        }
        due.is("all stop already", ruled.stop(0), -1);
        due.is("all stop already: by nothing", ruled.stop(1), 0);
        due.is("nowhere less", z.stop(0), -1);
        due.is("by nothing", z.stop(1), 0);
        due.is("what -1", x.stop(-1), NO);
        due.is("what 2", x.stop(2), NO);
    }

    /** stop() is compared with plans of rows that are ruled, truly, at each place, a gap or not. */
    private static void stopsByGaps() {
        AGapEveryTwenty x = by("falls 90*(place=5 and not beside=0);takes 1;closes 1;");
        x.set(0, 1 << 5);
        due.is("a gap is ruled", x.stop(0), 5);
        due.is("a gap is ruled: by how much", x.stop(1), 15000 + 155000 - (15000 + 5000));
        AGapEveryTwenty y = by("falls 99*(place=1 and beside=1);takes 1;closes 1;");
        y.set(0, 1 << 5);
        due.is("no gap is ruled", y.stop(0), 0);
        String[] laws = {"falls beside*2;takes 1;closes 3;", "falls place*3;takes 1+more;closes 1;",
            "falls 9+more*gaps;takes 1+end;closes beside;"};
        for (String law : laws) {
            for (int set : new int[] {0, 1, 1 << 15, 544, 0b0011_0000_0110_0010}) {
                for (int way = 0; way < 3; way++) {
                    int place = -1;
                    long most = 0;
                    long before = mixed(law, set, way).plan();
                    for (int p = 0; p < 16; p++) {
                        AGapEveryTwenty z = mixed(law, set, way);
                        z.lay(p, 4, z.told(p, 1));
                        if (before - z.plan() > most) {
                            most = before - z.plan();
                            place = p;
                        }
                    }
                    AGapEveryTwenty z = mixed(law, set, way);
                    due.is("stop(0) by " + set + " from " + way + ", " + law, z.stop(0), place);
                    due.is("stop(1) by " + set + " from " + way + ", " + law, z.stop(1), most);
                    due.is("the plan is as before", z.plan(), before);
                }
            }
        }
    }

    private static AGapEveryTwenty mixed(String law, int set, int way) {
        AGapEveryTwenty x = new AGapEveryTwenty();
        Tape.obey(x, law);
        int[] kinds = {0, 1, 0, 2, 5, 3, 0, 4, 1, 0, 0, 3, 2, 0, 5, 1};
        for (int p = 0; p < 16; p++) {
            x.lay(p, kinds[p], p * 7 % 10);
        }
        x.set(0, set);
        x.set(2, way);
        return x;
    }

    private static void dears() {
        AGapEveryTwenty x = new AGapEveryTwenty();
        due.is("no gaps", x.dear(0), -1);
        due.is("no gaps: mean", x.dear(1), -1);
        due.is("what -1 without gaps", x.dear(-1), NO);
        due.is("what 2 without gaps", x.dear(2), NO);
        AGapEveryTwenty y = by("falls 0;takes 1;closes place;");
        y.set(0, 1 << 2 | 1 << 9 | 1 << 12);
        due.is("the dear one", y.dear(0), 12);
        due.is("the plan without it", y.dear(1), 16000 + 2000 + 9000);
        AGapEveryTwenty z = by("falls 0;takes 1;closes 5;");
        z.set(0, 1 << 2 | 1 << 9 | 1 << 12);
        due.is("of like ones the first", z.dear(0), 2);
        due.is("its gap is one yet", z.count(0), 1 << 2 | 1 << 9 | 1 << 12);
        AGapEveryTwenty w = by("falls 0;takes 1;closes 16-place;");
        w.set(0, 1);
        due.is("place 0 alone", w.dear(0), 0);
        due.is("place 0 alone: mean", w.dear(1), 16000);
        w.set(0, 1 | 1 << 15);
        due.is("place 0 of two", w.dear(0), 0);
        due.is("place 0 of two: mean", w.dear(1), 17000);
        w.set(0, 1 << 14 | 1 << 15);
        due.is("asked again of others", w.dear(1), 17000);
        AGapEveryTwenty v = by("falls place+beside;takes 1;closes 5;");
        v.set(0, 1 << 5);
        v.set(2, 1);
        due.is("one gap, from END", v.dear(1), v.mean(0, 1));
    }

    /** No call is led by what an earlier one has found, though that was less. */
    private static void oneByOne() {
        AGapEveryTwenty x = by("falls 0;takes 1;closes 1;");
        x.set(0, 1 << 3 | 1 << 7 | 1 << 9);
        long none = x.best(0, 1);
        due.is("best", none, 16000);
        due.is("every", x.every(0), 9);
        due.is("best again", x.best(0, 1), none);
        due.is("which", x.which(0), 0);
        due.is("best once more", x.best(0, 1), none);
        due.is("dear", x.dear(0), 3);
        due.is("best at last", x.best(0, 1), none);
        due.is("stop", x.stop(0), -1);
        due.is("plan", x.plan(), 19000);
        AGapEveryTwenty y = by("falls place;takes 1;closes 1;");
        y.set(0, 1 << 6 | 1 << 15);
        due.is("without a gap", y.dear(1) < y.which(1) ? 1 : 0, 1);
        due.is("which behind dear", y.which(0), 1);
        due.is("which behind dear: mean", y.which(1), y.mean(1 << 6 | 1 << 15, 1));
        due.is("every behind best", y.best(4, 1) < y.every(1) ? 1 : 0, 1);
        due.is("every behind best: k", y.every(0) >= 2 ? 1 : 0, 1);
        due.is("every behind best: mean", y.every(1), y.mean(gapsEvery((int) y.every(0)), 0));
    }

    /** Gaps from the left on, each with none beside: seen by the cuts, one set asked behind another. */
    private static void gapsAtLast() {
        AGapEveryTwenty x = by("falls place+5+30*(not beside=0);takes 1;closes 1;");
        for (int set : new int[] {0, 65535, 1, 1 << 15, 1 | 1 << 7 | 1 << 15, 0b1010_1010_1010_1010, 0b0101_0101_0101_0101}) {
            long c = 1000000000L;
            for (int p = 0; p < 16; p++) {
                if ((set >> p & 1) == 0) {
                    c = c * (100 - p - 5 - (p > 0 && (set >> p - 1 & 1) == 0 ? 30 : 0)) / 100;
                }
            }
            for (int p = 0; p < 16; p++) {
                if ((set >> p & 1) == 1) {
                    c = c * (100 - p - 5) / 100;
                }
            }
            due.is("likely by " + set, x.likely(set, 0), c);
        }
        AGapEveryTwenty y = by("falls 99;takes 1;closes 1;");
        due.is("cut to nothing", y.likely(0, 1), 0);
        AGapEveryTwenty z = by("falls 0;takes 1;closes 1;");
        due.is("none falls", z.likely(21845, 1), 1000000000L);
    }

    private static void atOnce() {
        AGapEveryTwenty x = new AGapEveryTwenty();
        due.is("all spots", x.likely(0, 0), 723797716L);
        due.is("all gaps", x.likely(65535, 2), 723797716L);
        AGapEveryTwenty y = by("falls beside;takes 1;closes 1;");
        y.lay(3, 2, 0);
        // gaps at 0 and 4; stretches 1 .. 3 and 5 .. 15; place 3 falls twice as much
        int[] besideOfThree = {2, 0, 1}; // how many stand as place 3 is put up, by the way
        for (int way = 0; way < 3; way++) {
            long c = 1000000000L;
            for (int beside = 0; beside < 3; beside++) {
                c = c * (100 - (beside == besideOfThree[way] ? 2 * beside : beside)) / 100;
            }
            for (int beside = 0; beside < 11; beside++) {
                c = c * (100 - beside) / 100;
            }
            due.is("likely by gaps from " + way, y.likely(1 | 1 << 4, way), c);
        }
        gapsAtLast();
        // gaps at last, beside 0
        AGapEveryTwenty z = by("falls place*6+beside;takes 1;closes 1;");
        long c = 1000000000L;
        for (int p : new int[] {1, 2, 3, 4, 5, 6, 7, 8, 9, 10, 11, 12, 13, 14, 15, 0}) {
            int falls = Math.min(99, p == 0 ? 0 : 6 * p + p - 1);
            c = c * (100 - falls) / 100;
        }
        due.is("a gap at last", z.likely(1, 0), c);
        due.is("set -1", x.likely(-1, 0), NO);
        due.is("set 65536", x.likely(65536, 0), NO);
        due.is("way -1", x.likely(0, -1), NO);
        due.is("way 3", x.likely(0, 3), NO);
    }
}
