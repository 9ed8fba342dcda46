/** Promise 5: what can be read, where it can't, and what it says. */
public final class FaultTest {
    private static final Due due = new Due("FaultTest");

    public static void main(String[] args) {
        faults();
        eachToken();
        opens();
        wholeTapes();
        sayings();
        due.end();
    }

    private static void fault(String text, int place) {
        due.is("text() of " + text, Tape.read(new AGapEveryTwenty(), text), -100 - place);
    }

    private static void good(String text) {
        due.is("text() of " + text, Tape.read(new AGapEveryTwenty(), text), 1);
    }

    private static void faults() {
        good("falls2;takes3;closes4;");
        good("\n falls 2 ;\ntakes 3 ; closes 4 ; \n");
        good("falls 1or 2and 3;takes 0009;closes place;");
        fault("", 0);
        fault("   ", 3);
        fault("falls 2;takes 3;closes 4", 24);
        fault("falls 2;takes 3;closes 4  ", 26);
        fault("falls 2;takes 3;closes 4; ;", 26);
        fault("falls 2;takes 3;closes 4;falls", 25);
        fault("takes 2;", 0);
        fault("falls 2;closes 3;", 8);
        fault("falls falls;", 6);
        fault("falls ;", 6);
        fault("falls 2 3;", 8);
        fault("falls 12345;", 6);
        fault("falls 00001;", 6);
        fault("falls 1+place 12345", 14);
        fault("falls plac;", 6);
        fault("falls places;", 6);
        fault("falls2place;", 6);
        fault("falls placez;", 6);
        fault("falls place0;", 11);
        fault("falls{;", 5);
        fault("falls`;", 5);
        fault("falls/;", 5);
        fault("falls:;", 5);
        fault("falls 2 x", 8);
        fault("falls 2 @", 8);
        fault("Falls 2;", 0);
        fault("fallsA 2;", 5);
        fault("falls placeZ;", 11);
        fault("falls 1 orE 2;", 10);
        fault("falls 12a;", 8);
        fault("falls 1;takes 1;closes 1;Z", 25);
        fault("falls 99999999999999999999;", 6);
        fault("falls 2\t;", 7);
        fault("falls 2\r;", 7);
        fault("falls 2;takes 3;closes 4;\u0000", 25);
        fault("falls 2;takes 3;closes 4;\u00ff", 25);
        fault("falls 1 + ;", 10);
        fault("falls 1 * * 2;", 10);
        fault("falls 1 < 2 < 3;", 12);
        fault("falls 1 = 2 = 3;", 12);
        fault("falls 1 < not 2;", 10);
        fault("falls 1 + not 2;", 10);
        fault("falls - not 2;", 8);
        fault("falls not;", 9);
        fault("falls 1 or;", 10);
        fault("falls or 1;", 6);
        fault("falls +1;", 6);
        fault("falls (1;", 8);
        fault("falls 1);", 7);
        fault("falls ();", 7);
        fault("falls (1", 8);
        fault("falls 1;takes", 13);
        fault("falls 1;takes 1;closes >", 23);
        // a word that is none, where the token ahead of it could stand once more
        fault("falls (x(1));takes 1;closes 1;", 7);
        fault("falls not x 1;takes 1;closes 1;", 10);
        fault("falls - x 1;takes 1;closes 1;", 8);
        fault("x falls 1;takes 1;closes 1;", 0);
        fault("falls 1 x;takes 1;closes 1;", 8);
        fault("falls 1;x takes 1;closes 1;", 8);
        fault("falls 1;takes 1;closes 1 x;", 25);
        fault("falls 1;takes 1;closes 1;x", 25);
        fault("falls 1;takes 1;closes 1;12345", 25);
        // the first of several faults, though a later one is of bytes
        fault("falls 1 1;takes 12345;@", 8);
        fault("falls 1;takes 12345;@", 14);
        fault("falls 1;takes 1 @ x", 16);
        good("falls 1 - -1;takes not not 1;closes (not 1 < 2) + 1;");
        good("falls 1 < 2 and 2 < 3 or not 1 = 2;takes 1;closes 1;");
    }

    private static final String ONES = "place more beside gaps end reach 7 0000";
    private static final String AHEAD = " - (";
    private static final String BEHIND_ONE = "+ - *";

    /** Each token behind each beginning: where it can't stand, its place is the FAULT; where it can, the end is. */
    private static void eachToken() {
        String sums = "or and " + BEHIND_ONE;
        String compared = sums + " < =";
        behind("", "falls");
        behind(" \n", "falls");
        for (String begun : new String[] {"falls ", "falls 1 or ", "falls 1 and ", "falls not ", "falls ("}) {
            behind(begun, ONES + AHEAD + " not");
        }
        for (String begun : new String[] {"falls 1 + ", "falls 1 - ", "falls 1 * ", "falls 1 < ", "falls 1 = ",
            "falls - ", "falls not - ", "falls - - "}) {
            behind(begun, ONES + AHEAD);
        }
        for (String begun : new String[] {"falls 1 ", "falls more ", "falls - 1 ", "falls not 1 ", "falls 1 + 2 ",
            "falls 1 * 2 ", "falls 1 and 2 ", "falls 1 < 2 or 3 ", "falls 1 < 2 and 3 ", "falls (1 < 2) ",
            "falls not (1 < 2) ", "falls 1 < 2 and not 3 "}) {
            behind(begun, compared + " ;");
        }
        for (String begun : new String[] {"falls 1 < 2 ", "falls 1 = 2 ", "falls not 1 < 2 ", "falls 1 < 2 + 3 ",
            "falls 1 or 2 = 3 * 4 ", "falls 1 = - 2 "}) {
            behind(begun, sums + " ;");
        }
        behind("falls (1 ", compared + " )");
        behind("falls (1 < 2 ", sums + " )");
        behind("falls ((1) ", compared + " )");
        behind("falls 1;", "takes");
        behind("falls 1 ; takes (2) ; ", "closes");
        behind("falls 1;takes 1;", "closes");
        behind("falls 1;takes ", ONES + AHEAD + " not");
        behind("falls 1;takes 1;closes 1 ", compared + " ;");
        behind("falls 1;takes 1;closes 1;", "");
        behind("falls 1;takes 1;closes 1; ", "");
        // while five are open
        behind("falls ((((( ", ONES);
        behind("falls - - - - - ", ONES);
        behind("falls not not not not not ", ONES);
        behind("falls ( - ( not ( 1 + ", ONES);
        behind("falls (((( ", ONES + AHEAD + " not");
        behind("falls (((((1 ", compared + " )");
        behind("falls (((((1) ", compared + " )");
    }

    private static void behind(String begun, String allowed) {
        String all = "falls takes closes or and not place more beside gaps end reach 7 0000 ( ) ; + - * < ="
                + " x fall fallss ors nota 12345 00000 @ A { ` / : ! > [ ' , . \t \r \u0000 \u0080 \u00ff";
        for (String token : all.split(" ")) {
            boolean can = (" " + allowed + " ").contains(" " + token + " ");
            boolean ends = token.equals(";") && begun.startsWith("falls 1;takes 1;closes 1 ");
            if (ends) {
                good(begun + token);
            } else {
                fault(begun + token, begun.length() + (can ? token.length() : 0));
                fault(begun + token + " ", begun.length() + (can ? token.length() + 1 : 0));
            }
        }
    }

    private static void opens() {
        String rest = ";takes 1;closes 1;";
        good("falls (((((1)))))" + rest);
        fault("falls ((((((1))))))" + rest, 11);
        good("falls -----1" + rest);
        fault("falls ------1" + rest, 11);
        good("falls not not not not not 1" + rest);
        fault("falls not not not not not not 1" + rest, 26);
        fault("falls not not not not not -1" + rest, 26);
        fault("falls not not not not not (1)" + rest, 26);
        fault("falls not not not not not 1 < (1)" + rest, 30);
        fault("falls not(-(not(1)))" + rest, 15);
        good("falls not(-(not 1))" + rest);
        good("falls (not -(-1)) - (not -(-1))" + rest);
        // each is open just till what it belongs to ends
        good("falls -----1 - -----1 - (((((1)))))" + rest);
        good("falls not not not not not 1 and (((((1)))))" + rest);
        good("falls ((((1 - 1 - (1)))))" + rest);
        fault("falls (((((1 - -1)))))" + rest, 15);
        good("falls ((((-1 + -1 * -1))))" + rest);
        fault("falls ((((-1 + -(1)))))" + rest, 16);
    }

    private static void times(AGapEveryTwenty x, String sign, int many) {
        Tape.feed(x, sign.repeat(many));
    }

    /** Texts as long as the tape, and shorter ones that come behind longer ones. */
    private static void wholeTapes() {
        AGapEveryTwenty x = new AGapEveryTwenty();
        times(x, " ", 160);
        due.is("blanks alone", x.text(), -260);
        times(x, "a", 160);
        due.is("a long word", x.text(), -100);
        times(x, "1", 160);
        due.is("a long number at once", x.text(), -100);
        Tape.feed(x, "falls ");
        times(x, "0", 154);
        due.is("a long number", x.text(), -106);
        Tape.feed(x, "falls 1;takes 1;closes 1;");
        times(x, "\n", 135);
        due.is("blanks at last", x.text(), 1);
        Tape.feed(x, "falls 1");
        times(x, "+1", 68);
        Tape.feed(x, ";takes 1;closes 1");
        due.is("160 and the end", x.count(6), 160);
        due.is("too early by one", x.text(), -260);
        Tape.feed(x, "falls 1");
        times(x, "+1", 67);
        Tape.feed(x, " ;takes 1;closes 1;");
        due.is("160", x.count(6), 160);
        due.is("as many signs as there is room for", x.text(), 2);
        x.force(2);
        due.is("what they say", x.told(0, 2), 68);
        shorterBehindLonger();
        due.is("too short behind a longer one", Tape.read(x, "falls 1;takes 1;closes 1"), -124);
        due.is("a word behind a longer one", Tape.read(x, "fall"), -100);
        due.is("a number behind a longer one", Tape.read(x, "falls 1"), -107);
    }

    /** Nothing of a longer text, or of a faulty one, is left in a shorter one. */
    private static void shorterBehindLonger() {
        for (String longer : new String[] {"falls 1+1*1;takes 1;closes 1;", "falls 1*1+1*1;takes 1;closes 1",
            "falls not 1;takes - 1;closes - - 1;", "falls 1;takes 1;closes 1 < 1 or"}) {
            AGapEveryTwenty x = new AGapEveryTwenty();
            Tape.read(x, longer);
            due.is("reads behind " + longer, Tape.obey(x, "falls 5;takes 6;closes 7;") > 0 ? 1 : 0, 1);
            for (int part = 0; part < 3; part++) {
                due.is("says behind " + longer, x.asks(part, 0, 0), 5 + part);
            }
        }
    }

    private static void says(String e, int want) {
        AGapEveryTwenty x = new AGapEveryTwenty();
        x.set(0, 7);
        x.set(2, 1);
        x.set(3, 2);
        x.lay(5, 0, 8);
        due.is("reads " + e, Tape.obey(x, "falls 50+(" + e + ");takes 1;closes 1;"), 1);
        due.is("says " + e, x.asks(0, 5, 4), 50 + want);
    }

    private static void sayings() {
        says("place", 5);
        says("more", 8);
        says("beside", 4);
        says("gaps", 3);
        says("end", 1);
        says("reach", 2);
        says("1 + 2 * 3", 7);
        says("(1 + 2) * 3", 9);
        says("9 - 3 - 2", 4);
        says("9 - (3 - 2)", 8);
        says("- 3 + 2", -1);
        says("-3 * -2", 6);
        says("- - 4", 4);
        says("1 < 2", 1);
        says("2 < 2", 0);
        says("2 = 2", 1);
        says("2 = 3", 0);
        says("1 + 1 < 1 + 2", 1);
        says("-1 < 0", 1);
        says("3 or 0", 1);
        says("0 or 0", 0);
        says("0 or 0 or 7", 1);
        says("3 and 4", 1);
        says("3 and 0", 0);
        says("0 and 1 or 1", 1);
        says("1 or 1 and 0", 1);
        says("not 3", 0);
        says("not 0", 1);
        says("not 1 < 0", 1);
        says("not 0 and 0", 0);
        says("not not 6", 1);
        says("(3)", 3);
        says("0007", 7);
        says("9999 * 9999 * 9999 * 9999 < 0", (9999 * 9999 * 9999 * 9999) < 0 ? 1 : 0);
        says("9999 * 9999 * 9999 = " + "(0 - 9999) * (0 - 9999) * 9999", 1);
        says("not -1", 0);
        says("-1 and -2", 1);
        says("-1 or 0", 1);
        says("not not -7", 1);
        says("0 < -1", 0);
        says("9999 - 9999", 0);
        String most = "1024*1024*1024-1+1024*1024*1024";
        says(most + " < 0", 0);
        says(most + "+1 < 0", 1);
        says("-(" + most + "+1) < 0", 1);
        says("-(" + most + ")-1 < 0", 1);
        says("-(" + most + ")-2 = " + most, 1);
        says("1024*1024*1024*4", 0);
        says("(" + most + ")*2", -2);
        says("(" + most + ")*(" + most + ")", 1);
        // compared as they are, though their difference wraps
        says(most + " < -1", 0);
        says("-1 < " + most, 1);
        says("-(" + most + ") < " + most, 1);
        says(most + " < -(" + most + ")", 0);
        says("-(" + most + ")-1 < 1", 1);
        says("1 < -(" + most + ")-1", 0);
        says(most + " = -1-" + most, 0);
        chains();
        says("9000 * 9000 * 53 < 0", 9000 * 9000 * 53 < 0 ? 1 : 0);
    }

    /** Several alike, one behind another. */
    private static void chains() {
        says("1 and 2 and 3", 1);
        says("1 and 2 and 0", 0);
        says("0 and 2 and 3", 0);
        says("1 and 0 and 3 and 4", 0);
        says("0 or 0 or 0 or 4", 1);
        says("0 or 0 or 0 or 0", 0);
        says("1 and 0 or 1 and 0 or 2 and 3", 1);
        says("1 and (0 or 0 or 1) and 4", 1);
        says("2 * 3 * 4", 24);
        says("2 * 3 * 4 - 5 * 2 * 2 + 1", 5);
        says("1 - 2 + 3 - 4 + 5", 3);
        says("1 + 2 + 3 + 4 + 5", 15);
        says("20 - 1 - 2 - 3 - 4", 10);
        says("- 2 * 3", -6);
        says("2 * - 3 + 10", 4);
        says("not not not 4", 0);
        says("- - - 4", -4);
        says("not 1 = 2 and not 2 = 2", 0);
        says("not 1 = 2 or not 2 = 2", 1);
        says("4 and 8", 1);
        says("4 or 8", 1);
        says("(1 < 2) < 2", 1);
        says("(3 = 3) = 3", 0);
        says("(2 and 3) + (2 or 3) + (not 0)", 3);
    }
}
