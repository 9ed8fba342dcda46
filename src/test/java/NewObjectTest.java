/** Promise 1: a new object; the constants. */
public final class NewObjectTest {
    public static void main(String[] args) {
        Due due = new Due("NewObjectTest");
        AGapEveryTwenty x = new AGapEveryTwenty();
        int[] counts = {0, 0, 0, 0, 1, 0, 0};
        for (int what = 0; what < counts.length; what++) {
            due.is("count(" + what + ")", x.count(what), counts[what]);
        }
        for (int p = 0; p < 16; p++) {
            due.is("told(" + p + ", 0)", x.told(p, 0), 0);
            due.is("told(" + p + ", 1)", x.told(p, 1), 0);
            due.is("told(" + p + ", 2)", x.told(p, 2), 2);
            due.is("told(" + p + ", 3)", x.told(p, 3), 3);
            due.is("told(" + p + ", 4)", x.told(p, 4), 0);
            due.is("told(" + p + ", 5)", x.told(p, 5), 10);
        }
        for (int s = 0; s < 4; s++) {
            due.is("cell on a missing sheet " + s, x.cell(s, 0, 0), -11);
        }
        due.is("back() without an image", x.back(), AGapEveryTwenty.STATE);
        due.is("far(0)", x.far(0), -1);
        due.is("NONE", AGapEveryTwenty.NONE, -1);
        due.is("BAD", AGapEveryTwenty.BAD, -2);
        due.is("STATE", AGapEveryTwenty.STATE, -3);
        due.is("FULL", AGapEveryTwenty.FULL, -4);
        due.is("NO", AGapEveryTwenty.NO, -4611686018427387904L);
        due.end();
    }
}
