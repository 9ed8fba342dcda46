/** Promises 2 to 9: the row, the law. */
public final class RowTest {
    private static final int BAD = AGapEveryTwenty.BAD, FULL = AGapEveryTwenty.FULL;
    private static final Due due = new Due("RowTest");

    public static void main(String[] args) {
        counts();
        sets();
        feeds();
        texts();
        forces();
        asks();
        lays();
        tells();
        bounds();
        due.end();
    }

    private static void counts() {
        AGapEveryTwenty x = new AGapEveryTwenty();
        x.set(0, 5);
        x.set(1, 65535);
        x.set(2, 2);
        x.set(3, 1);
        Tape.obey(x, "falls 1;takes 2;closes 3;");
        Tape.feed(x, "abc");
        int[] want = {5, 65535, 2, 1, 2, 1, 3};
        for (int what = 0; what < 7; what++) {
            due.is("count(" + what + ")", x.count(what), want[what]);
        }
        due.is("count(-1)", x.count(-1), BAD);
        due.is("count(7)", x.count(7), BAD);
    }

    private static void sets() {
        AGapEveryTwenty x = new AGapEveryTwenty();
        int[] most = {65535, 65535, 2, 2};
        for (int what = 0; what < 4; what++) {
            due.is("set to the most", x.set(what, most[what]), 0);
            due.is("set to 1", x.set(what, 1), most[what]);
            due.is("set above", x.set(what, most[what] + 1), -7);
            due.is("set below", x.set(what, -1), -7);
            due.is("as it was", x.count(what), 1);
        }
        due.is("set(-1, 0)", x.set(-1, 0), -5);
        due.is("set(4, 0)", x.set(4, 0), -5);
        due.is("set(4, -1): the first one told", x.set(4, -1), -5);
    }

    private static void feeds() {
        AGapEveryTwenty x = new AGapEveryTwenty();
        due.is("feed of 0", x.feed(0, 1, 2, 3, 4, 5), BAD);
        due.is("feed of 6", x.feed(6, 1, 2, 3, 4, 5), BAD);
        for (int i = 0; i < 5; i++) {
            int[] v = {32, 32, 32, 32, 32};
            v[i] = 256;
            due.is("feed of 256 at " + i, x.feed(1, v[0], v[1], v[2], v[3], v[4]), BAD);
            v[i] = -1;
            due.is("feed of -1 at " + i, x.feed(1, v[0], v[1], v[2], v[3], v[4]), BAD);
        }
        for (int i = 1; i <= 31; i++) {
            due.is("feed of 5", x.feed(5, 0, 255, 32, 32, 32), 5 * i);
        }
        due.is("feed up to 159", x.feed(4, 0, 0, 0, 0, 0), 159);
        due.is("feed of 2 with room for 1", x.feed(2, 0, 0, 0, 0, 0), FULL);
        due.is("none came", x.count(6), 159);
        due.is("feed up to 160", x.feed(1, 0, 0, 0, 0, 0), 160);
        due.is("feed with no room", x.feed(1, 0, 0, 0, 0, 0), FULL);
        due.is("BAD ahead of FULL", x.feed(1, 0, 0, 0, 0, -1), BAD);
        due.is("text of no token", x.text(), -100);
        due.is("the tape is empty", x.count(6), 0);
        // the bytes come in their order, and no more than the first n
        x.feed(5, 'f', 'a', 'l', 'l', 's');
        x.feed(3, ' ', '7', ';', '@', '@');
        x.feed(4, 't', 'a', 'k', 'e', '@');
        x.feed(2, 's', ' ', '@', '@', '@');
        x.feed(1, '1', '@', '@', '@', '@');
        due.is("how many came", x.count(6), 15);
        Tape.feed(x, ";closes 1;");
        due.is("fed text", x.text(), 1);
        x.force(1);
        due.is("fed law", x.told(0, 2), 7);
    }

    private static void texts() {
        AGapEveryTwenty x = new AGapEveryTwenty();
        for (int t = 1; t <= 5; t++) {
            due.is("text " + t, Tape.read(x, "falls " + t + ";takes 1;closes 1;"), t);
            due.is("TEXTS", x.count(4), t + 1);
            due.is("the tape", x.count(6), 0);
        }
        due.is("a seventh text", Tape.read(x, "falls 1;takes 1;closes 1;"), FULL);
        due.is("the tape stays", x.count(6), 25);
        Tape.feed(x, "@");
        due.is("FULL ahead of the FAULT", x.text(), FULL);
        due.is("the tape stays, too", x.count(6), 26);
        due.is("the law", x.count(5), 0);
        due.is("behind the last text", x.force(6), BAD);
        due.is("the last text", x.force(5), 0);
        due.is("what it says", x.told(0, 2), 5);
        AGapEveryTwenty y = new AGapEveryTwenty();
        due.is("a fault", Tape.read(y, "falls ;"), -106);
        due.is("the tape by a fault", y.count(6), 0);
        due.is("texts by a fault", y.count(4), 1);
    }

    private static void forces() {
        AGapEveryTwenty x = new AGapEveryTwenty();
        due.is("force(1) without one", x.force(1), BAD);
        due.is("force(-1)", x.force(-1), BAD);
        due.is("force(0)", x.force(0), 0);
        Tape.read(x, "falls 5;takes 6;closes 7;");
        due.is("a text is no law yet", x.told(3, 2), 2);
        due.is("force(1)", x.force(1), 0);
        due.is("falls", x.told(3, 2), 5);
        due.is("takes", x.told(3, 3), 6);
        due.is("closes", x.told(3, 5), 7);
        due.is("force(2)", x.force(2), BAD);
        due.is("force(0)", x.force(0), 1);
        due.is("falls again", x.told(3, 2), 2);
    }

    private static void asks() {
        AGapEveryTwenty x = new AGapEveryTwenty();
        due.is("falls", x.asks(0, 0, 0), 2);
        due.is("takes", x.asks(1, 15, 16), 3);
        due.is("closes", x.asks(2, 7, 5), 10);
        due.is("part -1", x.asks(-1, 0, 0), BAD);
        due.is("part 3", x.asks(3, 0, 0), BAD);
        due.is("place -1", x.asks(0, -1, 0), BAD);
        due.is("place 16", x.asks(0, 16, 0), BAD);
        due.is("beside -1", x.asks(0, 0, -1), BAD);
        due.is("beside 17", x.asks(0, 0, 17), BAD);
        Tape.obey(x, "falls place*10+more;takes gaps*9+end*3+reach;closes beside*2;");
        x.lay(4, 4, 7);
        due.is("place and more, of no kind", x.asks(0, 4, 0), 47);
        due.is("falls 99 at most", x.asks(0, 10, 0), 99);
        due.is("falls 0", x.asks(0, 0, 0), 0);
        due.is("takes 1 at least", x.asks(1, 0, 0), 1);
        x.set(0, 7);
        x.set(2, 2);
        x.set(3, 1);
        due.is("gaps, end, reach", x.asks(1, 0, 0), 34);
        x.set(0, 65535);
        due.is("takes 99 at most", x.asks(1, 0, 0), 99);
        due.is("beside", x.asks(2, 0, 16), 32);
        due.is("closes 1 at least", x.asks(2, 0, 0), 1);
        Tape.obey(x, "falls 1;takes beside+1;closes 1;");
        due.is("takes, beside as told", x.asks(1, 0, 7), 8);
        due.is("TAKES, beside 0", x.told(0, 3), 1);
    }

    private static void lays() {
        AGapEveryTwenty x = new AGapEveryTwenty();
        due.is("lay", x.lay(15, 5, 9), 0);
        due.is("lay again", x.lay(15, 1, 3), 59);
        due.is("lay back", x.lay(15, 0, 0), 13);
        due.is("place -1", x.lay(-1, 0, 0), -5);
        due.is("place 16 ahead of the kind", x.lay(16, 9, 0), -5);
        due.is("kind -1", x.lay(0, -1, 0), -7);
        due.is("kind 6", x.lay(0, 6, 0), -7);
        due.is("more -1", x.lay(0, 0, -1), -7);
        due.is("more 10", x.lay(0, 0, 10), -7);
        due.is("nothing became so", x.told(0, 0), 0);
    }

    private static void tells() {
        AGapEveryTwenty x = new AGapEveryTwenty();
        Tape.obey(x, "falls 9+beside;takes 4+beside;closes 5+beside;");
        int[][] want = {
            {0, 3, 9, 4, 0, 5}, {1, 3, 12, 6, 0, 5}, {2, 3, 18, 4, 0, 5},
            {3, 3, 12, 6, 0, 5}, {4, 3, 18, 10, 1, 5}, {5, 3, 1, 4, 0, 5}};
        for (int kind = 0; kind < 6; kind++) {
            x.lay(6, kind, 3);
            for (int what = 0; what < 6; what++) {
                due.is("told(6, " + what + ") of kind " + kind, x.told(6, what), want[kind][what]);
            }
        }
        due.is("place -1", x.told(-1, 0), -5);
        due.is("place 16 ahead of what", x.told(16, 9), -5);
        due.is("what -1", x.told(0, -1), -7);
        due.is("what 6", x.told(0, 6), -7);
        Tape.obey(x, "falls 70;takes 99;closes 1000;");
        x.lay(6, 2, 0);
        due.is("FALLS 99 at most", x.told(6, 2), 99);
        x.lay(6, 4, 9);
        due.is("TAKES above 99", x.told(6, 3), 111);
        due.is("closes 99 at most", x.told(6, 5), 99);
        x.lay(6, 5, 9);
        due.is("FALLS of a SURE, cut", x.told(6, 2), 6);
        // a DOOR falls more with those beside: seen by who is put up behind three others
        Tape.obey(x, "falls 0;takes 1;closes 1;");
        x.set(1, 7);
        x.lay(3, 3, 0);
        due.is("the first lot of seed 99 by 100", 100L * 48271 % 2147483647L % 100, 0);
        due.is("a DOOR with 3 beside", x.put(3, 99), 3);
        x.set(1, 6);
        due.is("a DOOR with 2 beside", x.put(3, 99), -1);
    }

    private static void bound(String e, int kind, int more, int falls) {
        AGapEveryTwenty x = new AGapEveryTwenty();
        Tape.obey(x, "falls " + e + ";takes 1;closes 1;");
        x.lay(8, kind, more);
        due.is("FALLS of " + e + ", KIND " + kind + ", MORE " + more, x.told(8, 2), falls);
    }

    /** FALLS 0 .. 99, TAKES 1 at least, what a text says: else the bound. */
    private static void bounds() {
        bound("99", 0, 9, 99);
        bound("100", 0, 9, 99);
        bound("0", 0, 9, 0);
        bound("-1", 0, 9, 0);
        bound("95", 1, 4, 99);
        bound("95", 1, 5, 99);
        bound("0", 1, 0, 0);
        bound("49", 2, 9, 98);
        bound("50", 2, 9, 99);
        bound("95", 3, 4, 99);
        bound("95", 3, 9, 99);
        bound("49", 4, 9, 98);
        bound("50", 4, 0, 99);
        bound("95", 5, 0, 47);
        bound("1", 5, 0, 0);
        bound("99", 5, 9, 9);
        // the text's bound is kept ahead of what the KIND makes of it
        bound("-7", 1, 9, 9);
        bound("-7", 3, 9, 9);
        bound("1000", 5, 0, 49);
        bound("1000", 5, 9, 9);
        String most = "(1024*1024*1024-1+1024*1024*1024)";
        bound(most, 0, 0, 99);
        bound(most, 1, 9, 99);
        bound(most + "+1", 0, 0, 0);
        bound(most + "+1", 1, 9, 9);
        AGapEveryTwenty x = new AGapEveryTwenty();
        int[][] says = {{-1, 1}, {0, 1}, {1, 1}, {2, 2}, {98, 98}, {99, 99}, {100, 99}, {9999, 99}};
        for (int t = 0; t < says.length; t++) {
            AGapEveryTwenty y = new AGapEveryTwenty();
            Tape.obey(y, "falls 1;takes " + says[t][0] + ";closes " + says[t][0] + ";");
            due.is("takes " + says[t][0], y.asks(1, 2, 0), says[t][1]);
            due.is("closes " + says[t][0], y.asks(2, 2, 0), says[t][1]);
            due.is("TAKES of takes " + says[t][0], y.told(2, 3), says[t][1]);
            y.lay(2, 1, 9);
            due.is("TAKES of a BEND", y.told(2, 3), says[t][1] + 2);
            y.lay(2, 4, 9);
            due.is("TAKES of a RULED", y.told(2, 3), says[t][1] + 12);
        }
        // a DOOR with all but it beside, a third of them cut
        Tape.obey(x, "falls 0;takes 1;closes 1;");
        long c = 1000000000L;
        for (int p = 0; p < 16; p++) {
            x.lay(p, 3, 0);
            c = c * (100 - p / 3) / 100;
        }
        due.is("DOORS, of each how many stand by 3, cut", x.likely(0, 0), c);
    }
}
