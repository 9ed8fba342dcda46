/** Promises 35 to 39: the host. */
public final class HostTest {
    private static final int BAD = AGapEveryTwenty.BAD;
    private static final Due due = new Due("HostTest");

    public static void main(String[] args) {
        sheets();
        cells();
        copies();
        lays();
        takes();
        due.end();
    }

    private static void sheets() {
        AGapEveryTwenty x = new AGapEveryTwenty();
        due.is("sheet -1", x.sheet(-1, 0, 0), BAD);
        due.is("sheet 4", x.sheet(4, 0, 0), BAD);
        due.is("sort -2", x.sheet(0, -2, 0), BAD);
        due.is("sort 3", x.sheet(0, 3, 0), BAD);
        due.is("n 41", x.sheet(0, 0, 41), BAD);
        due.is("n -1", x.sheet(0, 0, -1), -14);
        due.is("a bad sort ahead of -14", x.sheet(0, 3, -1), BAD);
        due.is("it is missing yet", x.cell(0, 0, 0), -11);
        for (int sort = 0; sort < 3; sort++) {
            due.is("n 40", x.sheet(3, sort, 40), 1);
            due.is("the last", x.cell(3, 39, 1), 1);
            due.is("behind the last", x.cell(3, 40, 1), -12);
            due.is("n 0", x.sheet(3, sort, 0), 1);
            due.is("there is none", x.cell(3, 0, 1), -12);
        }
        due.is("16 of sort 2", x.sheet(3, 2, 16), 1);
        due.is("all 0", x.amiss(3), 32);
        x.cell(3, 4, 9);
        due.is("not 0", x.amiss(3), 37);
        due.is("a refusal leaves it", x.sheet(3, 2, 41), BAD);
        due.is("as it was", x.amiss(3), 37);
        due.is("16 again", x.sheet(3, 2, 16), 1);
        due.is("all 0 again", x.amiss(3), 32);
        due.is("missing, n below 0", x.sheet(3, -1, -5), 1);
        due.is("missing", x.cell(3, 0, 0), -11);
        due.is("missing again, n above 40", x.sheet(3, -1, 99), 1);
    }

    private static void cells() {
        AGapEveryTwenty x = new AGapEveryTwenty();
        due.is("sheet -1", x.cell(-1, 0, 0), BAD);
        due.is("sheet 4", x.cell(4, 0, 0), BAD);
        due.is("missing ahead of the place", x.cell(0, -1, 0), -11);
        long[][] want = {{-56, 56, 127, -128, 0, -1}, {200, 312, 127, 128, 256, -1}, {200, 312, 127, 128, 256, -1}};
        int[] v = {200, 312, 127, 128, 256, -1};
        for (int sort = 0; sort < 3; sort++) {
            x.sheet(0, sort, 16);
            due.is("place -1", x.cell(0, -1, 0), -12);
            due.is("place 16", x.cell(0, 16, 0), -12);
            for (int i = 0; i < v.length; i++) {
                due.is("cell", x.cell(0, 15, v[i]), 1);
                due.is(v[i] + " in sort " + sort, x.amiss(0) - 30, Math.abs(want[sort][i] - 2));
            }
        }
        x.sheet(0, 1, 16);
        x.cell(0, 0, 65536 + 40000);
        due.is("a short's lowest 16 bits", x.amiss(0) - 30, 40000 - 65536 < 0 ? 25538 : 0);
        x.sheet(0, 2, 16);
        x.cell(0, 0, 65536 + 40000);
        due.is("an int has all", x.amiss(0) - 30, 105534);
    }

    private static void copies() {
        AGapEveryTwenty x = new AGapEveryTwenty();
        due.is("sheet -1", x.copy(-1, 0, 0, 0, 1), BAD);
        due.is("sheet 4", x.copy(0, 0, 4, 0, 1), BAD);
        due.is("both missing", x.copy(0, 0, 1, 0, -1), -11);
        x.sheet(0, 2, 5);
        due.is("the other one missing", x.copy(0, 0, 1, 0, -1), -11);
        due.is("the one missing", x.copy(1, 0, 0, 0, -1), -11);
        x.sheet(1, 1, 5);
        due.is("unlike sorts ahead of the places", x.copy(0, 9, 1, 9, -1), -13);
        x.sheet(1, 2, 16);
        int[][] outside = {{-1, 0, 1}, {0, -1, 1}, {0, 0, -1}, {5, 0, 1}, {0, 16, 1}, {6, 0, 0}, {0, 17, 0},
            {1, 0, 5}, {0, 12, 5}, {Integer.MAX_VALUE, 0, 1}, {0, Integer.MAX_VALUE, 1},
            {1, 1, Integer.MAX_VALUE}, {Integer.MIN_VALUE, 0, 1}, {0, 0, Integer.MIN_VALUE}};
        for (int[] o : outside) {
            due.is("copy from " + o[0] + " to " + o[1] + " of " + o[2], x.copy(0, o[0], 1, o[1], o[2]), -12);
        }
        due.is("nothing at the end", x.copy(0, 5, 1, 16, 0), 0);
        for (int i = 0; i < 5; i++) {
            x.cell(0, i, 10 + i);
        }
        due.is("all of it", x.copy(0, 0, 1, 11, 5), 5);
        due.is("nothing but that", x.amiss(1), 22 + 8 + 9 + 10 + 11 + 12);
        due.is("its own, to the right", x.copy(0, 0, 0, 1, 4), 4);
        x.sheet(1, 2, 16);
        x.copy(0, 0, 1, 0, 5);
        due.is("as they were, to the right", x.amiss(1), 22 + 8 + 8 + 9 + 10 + 11);
        due.is("its own, to the left", x.copy(0, 1, 0, 0, 4), 4);
        x.copy(0, 0, 1, 0, 5);
        due.is("as they were, to the left", x.amiss(1), 22 + 8 + 9 + 10 + 11 + 11);
    }

    private static void lays() {
        AGapEveryTwenty x = new AGapEveryTwenty();
        due.is("sheet -1", x.layBy(-1, 0, 0, 0), BAD);
        due.is("sheet 4", x.layBy(4, 0, 0, 0), BAD);
        due.is("sort -1", x.layBy(0, -1, 0, 0), BAD);
        due.is("sort 3", x.layBy(0, 3, 0, 0), BAD);
        due.is("n -1", x.layBy(0, 0, 0, -1), BAD);
        due.is("n 14", x.layBy(0, 0, 0, 14), BAD);
        due.is("missing", x.layBy(0, 0, -1, 1), -11);
        x.sheet(0, 1, 12);
        due.is("another sort ahead of the place", x.layBy(0, 0, -1, 1), -13);
        int[] by = {99, 5, 3, 7, 16, 0, 0, 6, 2, 9, 7, 1};
        for (int i = 0; i < by.length; i++) {
            x.cell(0, i, by[i]);
        }
        due.is("one, from place 1 on", x.layBy(0, 1, 1, 1), 1);
        due.is("it is so", x.told(5, 0) * 10 + x.told(5, 1), 37);
        x.lay(5, 0, 0);
        due.is("others are left out", x.layBy(0, 1, 1, 3), 2);
        due.is("the first is so", x.told(5, 0) * 10 + x.told(5, 1), 37);
        due.is("the third is so", x.told(6, 0) * 10 + x.told(6, 1), 29);
        x.lay(5, 0, 0);
        due.is("outside at last", x.layBy(0, 1, 1, 4), -12);
        due.is("what stood ahead became so", x.told(5, 0) * 10 + x.told(5, 1), 37);
        due.is("what was not whole did not", x.told(7, 0), 0);
        due.is("place -1", x.layBy(0, 1, -1, 1), -12);
        due.is("place 12", x.layBy(0, 1, 12, 1), -12);
        due.is("place 10", x.layBy(0, 1, 10, 1), -12);
        due.is("far outside", x.layBy(0, 1, Integer.MAX_VALUE, 13), -12);
        due.is("far below", x.layBy(0, 1, Integer.MIN_VALUE, 13), -12);
        due.is("none of them", x.layBy(0, 1, 0, 0), 0);
        x.sheet(1, 0, 39);
        due.is("thirteen", x.layBy(1, 0, 0, 13), 13);
        for (int sort = 0; sort < 3; sort++) {
            x.sheet(1, sort, 40);
            x.cell(1, 37, 15);
            x.cell(1, 38, 5);
            x.cell(1, 39, 9);
            due.is("thirteen up to the last number", x.layBy(1, sort, 1, 13), 13);
            due.is("the thirteenth is so", x.lay(15, 0, 0), 59);
            due.is("one number too few", x.layBy(1, sort, 2, 13), -12);
            due.is("all others are left out", x.layBy(1, sort, 37, 1), 1);
            due.is("nothing from the end on", x.layBy(1, sort, 40, 0), 0);
        }
        due.is("a bad KIND is left out", layOne(3, 6, 0), 0);
        due.is("a bad MORE is left out", layOne(3, 5, 10), 0);
        due.is("a place below 0 is left out", layOne(-1, 0, 0), 0);
        due.is("a good one", layOne(15, 5, 9), 1);
    }

    private static int layOne(int p, int kind, int more) {
        AGapEveryTwenty x = new AGapEveryTwenty();
        Tape.write(x, 2, p, kind, more);
        return x.layBy(2, 2, 0, 1);
    }

    private static void takes() {
        AGapEveryTwenty x = new AGapEveryTwenty();
        String[] isOne = {"100000", "110000", "101000", "110100", "101010", "100001"};
        for (int kind = 0; kind < 6; kind++) {
            x.lay(9, kind, 1);
            for (int as = 0; as < 6; as++) {
                due.is("kind " + kind + " taken for " + as, x.taken(9, as), isOne[kind].charAt(as) == '1' ? 9 : -13);
            }
            due.is("kind " + kind + " taken for a stone", x.taken(9, 6), -13);
        }
        due.is("no stone there", x.taken(16, 6), -11);
        due.is("no stone there, for a place", x.taken(31, 0), -11);
        x.set(1, 0b1000_0000_0010_1100);
        due.is("the first stone", x.taken(18, 6), 1);
        due.is("the second stone", x.taken(19, 6), 2);
        due.is("the third stone", x.taken(21, 6), 3);
        due.is("the last stone", x.taken(31, 6), 4);
        due.is("none between", x.taken(20, 6), -11);
        x.set(1, 65535);
        for (int p = 0; p < 16; p++) {
            due.is("stone at " + p + " of all", x.taken(16 + p, 6), p + 1);
        }
        x.set(1, 1);
        due.is("stone at 0 alone", x.taken(16, 6), 1);
        x.set(1, 1 << 15);
        due.is("stone at 15 alone", x.taken(31, 6), 1);
        for (int as = 0; as < 6; as++) {
            due.is("a stone taken for " + as, x.taken(31, as), -13);
        }
        due.is("kind -1 ahead of the place", x.taken(-1, -1), BAD);
        due.is("kind 7 ahead of the place", x.taken(32, 7), BAD);
        due.is("place -1", x.taken(-1, 0), -12);
        due.is("place 32", x.taken(32, 6), -12);
        due.is("place 0", x.taken(0, 0), 0);
        due.is("place 15", x.taken(15, 0), 15);
    }
}
