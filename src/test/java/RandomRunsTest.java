import java.util.Random;

/** Random runs of calls on the class and on SlowTwenty, which must answer alike. */
public final class RandomRunsTest {
    private static final String[] NAMES = {"place", "more", "beside", "gaps", "end", "reach"};
    private static final String[] ODD = {"(", ")", ";", "not", "-", "or", "x", "12345", "<", "=", "@", "A", "fall", "\t"};

    /** An object that has had 512 calls promises nothing: a step has at most 50, look() 108. */
    private static final int ENOUGH = 350;

    private final Random random;
    private final Due due;
    private AGapEveryTwenty x;
    private SlowTwenty y;

    private RandomRunsTest(long seed, Due due) {
        random = new Random(seed);
        this.due = due;
    }

    public static void main(String[] args) {
        Due due = new Due("RandomRunsTest");
        int runs = args.length > 0 ? Integer.parseInt(args[0]) : 300;
        long first = args.length > 1 ? Long.parseLong(args[1]) : 1;
        for (long seed = first; seed < first + runs; seed++) {
            new RandomRunsTest(seed, due).run(seed);
        }
        for (long seed = first; seed < first + 8 * runs; seed++) {
            new RandomRunsTest(seed, due).runTexts(seed);
        }
        due.end();
    }

    private void run(long seed) {
        x = new AGapEveryTwenty();
        y = new SlowTwenty();
        int begun = due.asked();
        while (due.asked() - begun < ENOUGH) {
            step("run " + seed + ", call " + (due.asked() - begun) + ": ");
        }
        look("run " + seed + ", at last: ");
    }

    /** As many texts as there can be, and what they say. */
    private void runTexts(long seed) {
        x = new AGapEveryTwenty();
        y = new SlowTwenty();
        int begun = due.asked();
        for (int i = 0; due.asked() - begun < ENOUGH; i++) {
            stepText("texts " + seed + ", text " + i + ": ");
            for (int k = 0; k < 8; k++) {
                stepRow("texts " + seed + ", text " + i + ": ");
            }
            for (int part = 0; part < 3; part++) {
                int p = random.nextInt(16);
                int beside = random.nextInt(17);
                due.is("texts " + seed + ", text " + i + ": asks(" + part + ", " + p + ", " + beside + ")",
                        x.asks(part, p, beside), y.asks(part, p, beside));
            }
        }
        look("texts " + seed + ", at last: ");
    }

    /** One of the first n numbers; sometimes one that is a little or far outside. */
    private int some(int n) {
        int r = random.nextInt(40);
        if (r == 0) {
            return -1;
        }
        if (r == 1) {
            return n;
        }
        if (r == 2) {
            return random.nextInt();
        }
        return random.nextInt(n);
    }

    private int someSet() {
        int set = some(65536);
        for (int i = random.nextInt(3); i > 0; i--) {
            set &= random.nextInt();
        }
        return set;
    }

    private void step(String at) {
        switch (random.nextInt(14)) {
            case 13: stepHeap(at); break;
            case 0: case 1: case 2: stepRow(at); break;
            case 3: stepText(at); break;
            case 4: case 5: stepPlans(at); break;
            case 6: case 7: stepStands(at); break;
            case 8: stepLots(at); break;
            case 9: case 10: stepTold(at); break;
            default: stepHost(at); break;
        }
    }

    private void stepRow(String at) {
        int a = some(16);
        int b = some(7);
        int c = some(10);
        int d = someSet();
        switch (random.nextInt(11)) {
            case 0: due.is(at + "set(0, " + d + ")", x.set(0, d), y.set(0, d)); break;
            case 1: due.is(at + "set(1, " + d + ")", x.set(1, d), y.set(1, d)); break;
            case 2: due.is(at + "set(" + (2 + c % 3) + ", " + b + ")", x.set(2 + c % 3, b), y.set(2 + c % 3, b)); break;
            case 3: due.is(at + "count(" + b + ")", x.count(b), y.count(b)); break;
            case 4: due.is(at + "force(" + b + ")", x.force(b), y.force(b)); break;
            case 5: due.is(at + "asks(" + c % 4 + ", " + a + ", " + b + ")", x.asks(c % 4, a, b), y.asks(c % 4, a, b)); break;
            case 6: case 7: due.is(at + "told(" + a + ", " + b + ")", x.told(a, b), y.told(a, b)); break;
            default: due.is(at + "lay(" + a + ", " + b + ", " + c + ")", x.lay(a, b, c), y.lay(a, b, c)); break;
        }
    }

    private void stepText(String at) {
        String text = someText();
        for (int i = 0; i < text.length(); i += 5) {
            int n = Math.min(5, text.length() - i);
            int[] v = new int[5];
            for (int k = 0; k < 5; k++) {
                v[k] = k < n ? text.charAt(i + k) : random.nextInt(256);
            }
            due.is(at + "feed(" + n + ", ..) of " + text, x.feed(n, v[0], v[1], v[2], v[3], v[4]),
                    y.feed(n, v[0], v[1], v[2], v[3], v[4]));
        }
        if (random.nextInt(10) == 0) {
            int n = some(7);
            int v = some(256);
            due.is(at + "feed(" + n + ", 32 .. " + v + ")", x.feed(n, 32, 32, 32, 32, v), y.feed(n, 32, 32, 32, 32, v));
        } else {
            int law = x.text();
            due.is(at + "text() of " + text, law, y.text());
            due.is(at + "force(" + law + ")", x.force(law), y.force(law));
        }
    }

    private String someText() {
        StringBuilder b = new StringBuilder();
        String[] keys = {"falls", "takes", "closes"};
        for (String key : keys) {
            b.append(key).append(random.nextInt(3) == 0 ? "\n" : " ");
            e(b, 3, 4);
            b.append(";");
        }
        String text = b.toString();
        if (random.nextInt(3) == 0 && text.length() > 1) {
            int i = random.nextInt(text.length());
            int j = Math.min(text.length(), i + random.nextInt(3));
            text = text.substring(0, i) + ODD[random.nextInt(ODD.length)] + text.substring(j);
        }
        return text.length() > 170 ? text.substring(0, 170) : text;
    }

    private void e(StringBuilder b, int deep, int bound) {
        and(b, deep, bound);
        while (random.nextInt(6) == 0) {
            b.append(" or ");
            and(b, deep, bound);
        }
    }

    private void and(StringBuilder b, int deep, int bound) {
        for (int i = random.nextInt(8) == 0 ? 2 + random.nextInt(2) : 1; i > 0; i--) {
            if (random.nextInt(6) == 0) {
                b.append(" not ");
            }
            sum(b, deep, bound);
            if (random.nextInt(5) == 0) {
                b.append(random.nextBoolean() ? "<" : " = ");
                sum(b, deep, bound);
            }
            b.append(i > 1 ? " and " : "");
        }
    }

    private void sum(StringBuilder b, int deep, int bound) {
        one(b, deep, bound);
        while (random.nextInt(3) == 0) {
            b.append("+-*".charAt(random.nextInt(3)));
            one(b, deep, bound);
        }
    }

    private void one(StringBuilder b, int deep, int bound) {
        int r = random.nextInt(8);
        if (r == 0 && deep > 0) {
            b.append("(");
            e(b, deep - 1, bound);
            b.append(")");
        } else if (r == 1 && deep > 0) {
            b.append("-");
            one(b, deep - 1, bound);
        } else if (r < 5) {
            b.append(" ").append(NAMES[random.nextInt(6)]).append(" ");
        } else {
            b.append(random.nextInt(5) == 0 ? random.nextInt(10000) : random.nextInt(30));
            b.append(random.nextInt(40) == 0 ? "*9999*9999" : "");
        }
    }

    private void stepPlans(String at) {
        int s = someSet();
        int w = some(3);
        switch (random.nextInt(12)) {
            case 0: due.is(at + "stretch(" + s + ", " + w + ")", x.stretch(s, w), y.stretch(s, w)); break;
            case 1: due.is(at + "plan()", x.plan(), y.plan()); break;
            case 2: {
                int many = random.nextInt(60) == 0 ? 3 : some(2);
                due.is(at + "best(" + many + ", " + w + ")", x.best(many, w), y.best(many, w));
                break;
            }
            case 3: due.is(at + "every(" + w + ")", x.every(w), y.every(w)); break;
            case 4: due.is(at + "which(" + w + ")", x.which(w), y.which(w)); break;
            case 5: due.is(at + "stop(" + w + ")", x.stop(w), y.stop(w)); break;
            case 6: due.is(at + "dear(" + w + ")", x.dear(w), y.dear(w)); break;
            case 7: case 8: due.is(at + "likely(" + s + ", " + w + ")", x.likely(s, w), y.likely(s, w)); break;
            default: due.is(at + "mean(" + s + ", " + w + ")", x.mean(s, w), y.mean(s, w)); break;
        }
    }

    private void stepStands(String at) {
        int p = some(16);
        int w = some(3);
        int seed = some(100000);
        switch (random.nextInt(8)) {
            case 0: due.is(at + "push(" + p + ", " + w + ")", x.push(p, w), y.push(p, w)); break;
            case 1: due.is(at + "far(" + w + ")", x.far(w), y.far(w)); break;
            case 2: due.is(at + "tip(" + p + ", " + w + ")", x.tip(p, w), y.tip(p, w)); break;
            default: due.is(at + "put(" + p + ", " + seed + ")", x.put(p, seed), y.put(p, seed)); break;
        }
    }

    private void stepLots(String at) {
        int seed = some(100000);
        int seeds = some(21);
        int n = some(random.nextBoolean() ? 401 : 40);
        int w = some(3);
        if (random.nextBoolean()) {
            due.is(at + "drawn(" + seed + ", " + n + ", " + w + ")", x.drawn(seed, n, w), y.drawn(seed, n, w));
        } else {
            due.is(at + "odds(" + seed + ", " + seeds + ", " + n + ", " + w + ")",
                    x.odds(seed, seeds, n, w), y.odds(seed, seeds, n, w));
        }
    }

    private void stepTold(String at) {
        int s = some(4);
        int p = some(16);
        int w = some(3);
        int how = some(13);
        switch (random.nextInt(13)) {
            case 0: due.is(at + "judge(" + s + ", " + p + ", " + w + ")", x.judge(s, p, w), y.judge(s, p, w)); break;
            case 1: due.is(at + "origin(" + s + ", " + w + ")", x.origin(s, w), y.origin(s, w)); break;
            case 2: case 3: due.is(at + "how(" + s + ", " + p + ", " + how + ")", x.how(s, p, how), y.how(s, p, how)); break;
            case 4: due.is(at + "check(" + s + ")", x.check(s), y.check(s)); break;
            case 5: case 6: due.is(at + "kinds(" + s + ", " + p + ", " + w + ")", x.kinds(s, p, w), y.kinds(s, p, w)); break;
            case 7: due.is(at + "laws(" + s + ")", x.laws(s), y.laws(s)); break;
            case 8: due.is(at + "amiss(" + s + ")", x.amiss(s), y.amiss(s)); break;
            case 9: due.is(at + "film(" + s + ", " + p + ", " + w + ")", x.film(s, p, w), y.film(s, p, w)); break;
            case 10: due.is(at + "film(" + s + ", 16, " + w + ")", x.film(s, 16, w), y.film(s, 16, w)); break;
            case 11: due.is(at + "image()", x.image(), y.image()); break;
            default: due.is(at + "back()", x.back(), y.back()); break;
        }
    }

    /** A heap that is told truly, and then asked about by another reach, from elsewhere, to another side. */
    private void stepHeap(String at) {
        int s = random.nextInt(4);
        int p = random.nextInt(16);
        int w = random.nextInt(3);
        due.is(at + "film(" + s + ", " + p + ", " + w + ")", x.film(s, p, w), y.film(s, p, w));
        if (random.nextBoolean()) {
            int reach = random.nextInt(3);
            due.is(at + "set(3, " + reach + ")", x.set(3, reach), y.set(3, reach));
        }
        due.is(at + "judge(" + s + ", " + p + ", " + w + ")", x.judge(s, p, w), y.judge(s, p, w));
        int side = random.nextInt(3);
        due.is(at + "origin(" + s + ", " + side + ")", x.origin(s, side), y.origin(s, side));
        due.is(at + "how(" + s + ", " + p + ", " + side + ")", x.how(s, p, side), y.how(s, p, side));
        due.is(at + "how(" + s + ", " + p + ", " + (10 + side) + ")", x.how(s, p, 10 + side), y.how(s, p, 10 + side));
    }

    private void stepHost(String at) {
        int s = some(4);
        int t = some(4);
        int i = some(20);
        int j = some(20);
        int n = some(15);
        int sort = some(3);
        int v = random.nextBoolean() ? some(12) : random.nextInt() >> random.nextInt(31);
        int size = random.nextBoolean() ? 16 : some(42);
        switch (random.nextInt(9)) {
            case 0: due.is(at + "sheet(" + s + ", " + sort + ", " + size + ")", x.sheet(s, sort, size), y.sheet(s, sort, size)); break;
            case 1: case 2: case 3:
                due.is(at + "cell(" + s + ", " + i + ", " + v + ")", x.cell(s, i, v), y.cell(s, i, v));
                break;
            case 4: case 5:
                due.is(at + "copy(" + s + ", " + i + ", " + t + ", " + j + ", " + n + ")", x.copy(s, i, t, j, n), y.copy(s, i, t, j, n));
                break;
            case 6: case 7:
                due.is(at + "layBy(" + s + ", " + sort + ", " + i + ", " + n + ")", x.layBy(s, sort, i, n), y.layBy(s, sort, i, n));
                break;
            default: {
                int place = some(32);
                due.is(at + "taken(" + place + ", " + n + ")", x.taken(place, n % 8), y.taken(place, n % 8));
                break;
            }
        }
    }

    /** All that can be seen of the state. */
    private void look(String at) {
        for (int what = 0; what < 7; what++) {
            due.is(at + "count(" + what + ")", x.count(what), y.count(what));
        }
        for (int p = 0; p < 16; p++) {
            for (int what = 0; what < 6; what++) {
                due.is(at + "told(" + p + ", " + what + ")", x.told(p, what), y.told(p, what));
            }
        }
        due.is(at + "plan()", x.plan(), y.plan());
        for (int s = 0; s < 4; s++) {
            due.is(at + "amiss(" + s + ")", x.amiss(s), y.amiss(s));
        }
    }
}
