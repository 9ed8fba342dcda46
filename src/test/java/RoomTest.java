import java.lang.management.ManagementFactory;

/** All calls of one run live in one room: an object is made once, and no call makes anything. */
public final class RoomTest {
    private static final com.sun.management.ThreadMXBean ROOM =
            (com.sun.management.ThreadMXBean) ManagementFactory.getThreadMXBean();
    private static final int CALLS = 38;
    private static long sum = 0;

    public static void main(String[] args) {
        Due due = new Due("RoomTest");
        AGapEveryTwenty warm = prepared();
        for (int call = 0; call < CALLS; call++) {
            call(warm, call, 3);
        }
        bytes();
        long before = bytes();
        AGapEveryTwenty x = new AGapEveryTwenty();
        due.is("a new object is small", bytes() - before < 40000 ? 1 : 0, 1);
        sum += x.count(0) + 1;
        for (int call = 0; call < CALLS; call++) {
            AGapEveryTwenty y = prepared();
            before = bytes();
            for (int i = 0; i < 100; i++) {
                call(y, call, i);
            }
            long made = bytes() - before;
            due.is("bytes that 100 calls of " + call + " make", made < 1000 ? 0 : made, 0);
        }
        due.is("something was answered", sum != 0 ? 1 : 0, 1);
        due.end();
    }

    private static long bytes() {
        return ROOM.getThreadAllocatedBytes(Thread.currentThread().getId());
    }

    private static AGapEveryTwenty prepared() {
        AGapEveryTwenty x = new AGapEveryTwenty();
        Tape.obey(x, "falls 3+beside*(place<8 or more=3);takes 3+more;closes not not 10 - -beside;");
        for (int p = 0; p < 16; p++) {
            x.lay(p, p % 6, p % 10);
        }
        x.set(0, 544);
        x.set(1, 0b0111_0110_1100_0000);
        x.film(0, 16, 0);
        x.film(1, 4, 0);
        x.image();
        return x;
    }

    private static void call(AGapEveryTwenty x, int call, int i) {
        switch (call) {
            case 0: sum += x.count(i % 8); break;
            case 1: sum += x.set(i % 4, i % 3); break;
            case 2: sum += x.feed(5, 'f', 'a', 'l', 'l', 's'); break;
            case 3: sum += x.feed(4, '(', '1', ';', ' ', 0) + x.text(); break;
            case 4: sum += x.force(i % 2); break;
            case 5: sum += x.asks(i % 3, i % 16, i % 17); break;
            case 6: sum += x.lay(i % 16, i % 6, i % 10); break;
            case 7: sum += x.told(i % 16, i % 6); break;
            case 8: sum += x.stretch(i * 651, i % 3); break;
            case 9: sum += x.mean(i * 651, i % 3); break;
            case 10: sum += x.plan(); break;
            case 11: sum += x.best(i % 5, i % 2); break;
            case 12: sum += x.every(i % 2); break;
            case 13: sum += x.which(i % 2); break;
            case 14: sum += x.stop(i % 2); break;
            case 15: sum += x.dear(i % 2); break;
            case 16: sum += x.likely(i * 651, i % 3); break;
            case 17: sum += x.push(i % 16, i % 3); break;
            case 18: sum += x.far(i % 2); break;
            case 19: sum += x.tip(i % 16, i % 3); break;
            case 20: sum += x.put(i % 16, i); break;
            case 21: sum += x.drawn(i, 4 * i, i % 3); break;
            case 22: sum += x.odds(i, 20, 400, i % 2); break;
            case 23: sum += x.judge(1, i % 16, i % 3); break;
            case 24: sum += x.origin(1, i % 3); break;
            case 25: sum += x.how(1, i % 16, i % 3 + 10 * (i % 2)); break;
            case 26: sum += x.check(0); break;
            case 27: sum += x.kinds(0, i % 16, i % 2); break;
            case 28: sum += x.laws(0); break;
            case 29: sum += x.amiss(0); break;
            case 30: sum += x.film(2, i % 17, i % 3); break;
            case 31: sum += x.image(); break;
            case 32: sum += x.back(); break;
            case 33: sum += x.sheet(3, i % 3, i % 41); break;
            case 34: sum += x.cell(0, i % 16, i); break;
            case 35: sum += x.copy(0, 0, 1, 2, 5); break;
            case 36: sum += x.layBy(0, 0, 0, 5); break;
            default: sum += x.taken(i % 32, i % 7); break;
        }
    }
}
