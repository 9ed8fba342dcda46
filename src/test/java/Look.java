/** All that can be seen of an object; looking uses its sheets and its tape up, so it comes last. */
final class Look {
    private final StringBuilder seen = new StringBuilder();
    private final AGapEveryTwenty x;

    private Look(AGapEveryTwenty x) {
        this.x = x;
    }

    static String at(AGapEveryTwenty x) {
        Look look = new Look(x);
        look.row();
        look.sheets();
        look.numbers();
        look.and("back", x.back());
        look.row();
        look.and("text", x.text());
        return look.seen.toString();
    }

    private void and(String what, long answer) {
        seen.append(what).append(' ').append(answer).append('\n');
    }

    private void row() {
        for (int what = 0; what < 7; what++) {
            and("count " + what, x.count(what));
        }
        for (int p = 0; p < 16; p++) {
            for (int what : new int[] {0, 1, 2, 3, 5}) {
                and("told " + p + " " + what, x.told(p, what));
            }
        }
        and("plan", x.plan());
    }

    /** Whether a sheet is there, of which sort, how many it has. */
    private void sheets() {
        for (int s = 0; s < 4; s++) {
            for (int sort = 0; sort < 3; sort++) {
                and("sheet " + s + " of sort " + sort, x.layBy(s, sort, 0, 0));
            }
            for (int n = 14; n <= 18; n++) {
                and("sheet " + s + " has " + n, x.copy(s, 0, s, 0, n));
            }
            and("sheet " + s + " amiss", x.amiss(s));
        }
    }

    /** Sheets that don't tell 16 are seen by copies on sheet 0. */
    private void numbers() {
        for (int s = 1; s < 4; s++) {
            int sort = x.layBy(s, 0, 0, 0) == 0 ? 0 : x.layBy(s, 1, 0, 0) == 0 ? 1 : 2;
            x.sheet(0, sort, 16);
            and("first of sheet " + s, x.copy(s, 0, 0, 0, 15));
            and("amiss", x.amiss(0));
            and("last of sheet " + s, x.copy(s, 15, 0, 14, 2));
            and("amiss", x.amiss(0));
        }
    }
}
