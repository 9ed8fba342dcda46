import java.math.BigInteger;
import java.util.ArrayList;
import java.util.Arrays;
import java.util.List;
import java.util.TreeSet;
import java.util.regex.Matcher;
import java.util.regex.Pattern;

/**
 * The document told a second time, word by word and without a thought of speed, to be compared with the class:
 * plans are closed gap by gap over lists of places, texts are trees, lots and means are big numbers.
 */
final class SlowTwenty {
    static final int BAD = -2, STATE = -3, FULL = -4;
    static final long NO = -4611686018427387904L;

    /** What a text says, by the values of its names. */
    interface Says {
        int of(int[] names);
    }

    /** Where a text's fault is. */
    static final class Fault extends Exception {
        final int place;

        Fault(int place) {
            this.place = place;
        }
    }

    static final class Snap {
        int[] kind = new int[16];
        int[] more = new int[16];
        int gaps, stands, end, reach, law;

        Snap twin() {
            Snap t = new Snap();
            t.kind = kind.clone();
            t.more = more.clone();
            t.gaps = gaps;
            t.stands = stands;
            t.end = end;
            t.reach = reach;
            t.law = law;
            return t;
        }
    }

    Snap now = new Snap();
    Snap image = null;
    StringBuilder tape = new StringBuilder();
    List<Says[]> texts = new ArrayList<>();
    Object[] sheets = new Object[4];

    SlowTwenty() {
        texts.add(new Says[] {n -> 2, n -> 3, n -> 10});
    }

    // ---- texts

    static final class Parser {
        static final List<String> KEYS = Arrays.asList("falls", "takes", "closes", "or", "and", "not");
        static final List<String> NAMES = Arrays.asList("place", "more", "beside", "gaps", "end", "reach");
        final List<String> words = new ArrayList<>();
        final List<Integer> places = new ArrayList<>();
        int i = 0;
        int open = 0;

        Parser(String tape) {
            Matcher m = Pattern.compile("[a-z]+|[0-9]+|[ \\n]+|[^a-z0-9 \\n]", Pattern.DOTALL).matcher(tape);
            while (m.find()) {
                String w = m.group();
                if (w.charAt(0) == ' ' || w.charAt(0) == '\n') {
                    continue;
                }
                boolean word = w.matches("[a-z]+") && (KEYS.contains(w) || NAMES.contains(w));
                boolean number = w.matches("[0-9]{1,4}");
                boolean sign = w.length() == 1 && "();+-*<=".contains(w);
                words.add(word || number || sign ? w : "?");
                places.add(m.start());
            }
            words.add("");
            places.add(tape.length());
        }

        boolean at(String w) {
            return words.get(i).equals(w);
        }

        void fault() throws Fault {
            throw new Fault(places.get(i));
        }

        void need(String w) throws Fault {
            if (!at(w)) {
                fault();
            }
            i++;
        }

        void opened() throws Fault {
            if (open == 5) {
                fault();
            }
            open++;
            i++;
        }

        Says[] all() throws Fault {
            Says[] parts = new Says[3];
            for (int k = 0; k < 3; k++) {
                need(KEYS.get(k));
                parts[k] = e();
                need(";");
            }
            if (!at("")) {
                fault();
            }
            return parts;
        }

        Says e() throws Fault {
            Says a = and();
            while (at("or")) {
                i++;
                Says l = a;
                Says r = and();
                a = n -> (l.of(n) != 0) | (r.of(n) != 0) ? 1 : 0;
            }
            return a;
        }

        Says and() throws Fault {
            Says a = not();
            while (at("and")) {
                i++;
                Says l = a;
                Says r = not();
                a = n -> (l.of(n) != 0) & (r.of(n) != 0) ? 1 : 0;
            }
            return a;
        }

        Says not() throws Fault {
            if (at("not")) {
                opened();
                Says a = not();
                open--;
                return n -> a.of(n) == 0 ? 1 : 0;
            }
            Says l = sum();
            if (at("<")) {
                i++;
                Says r = sum();
                return n -> l.of(n) < r.of(n) ? 1 : 0;
            }
            if (at("=")) {
                i++;
                Says r = sum();
                return n -> l.of(n) == r.of(n) ? 1 : 0;
            }
            return l;
        }

        Says sum() throws Fault {
            Says a = term();
            while (at("+") || at("-")) {
                boolean plus = at("+");
                i++;
                Says l = a;
                Says r = term();
                a = plus ? n -> l.of(n) + r.of(n) : n -> l.of(n) - r.of(n);
            }
            return a;
        }

        Says term() throws Fault {
            Says a = one();
            while (at("*")) {
                i++;
                Says l = a;
                Says r = one();
                a = n -> l.of(n) * r.of(n);
            }
            return a;
        }

        Says one() throws Fault {
            String w = words.get(i);
            if (w.matches("[0-9]+")) {
                i++;
                int v = Integer.parseInt(w);
                return n -> v;
            }
            if (NAMES.contains(w)) {
                i++;
                int k = NAMES.indexOf(w);
                return n -> n[k];
            }
            if (at("-")) {
                opened();
                Says a = one();
                open--;
                return n -> -a.of(n);
            }
            if (at("(")) {
                opened();
                Says a = e();
                need(")");
                open--;
                return a;
            }
            fault();
            return null;
        }
    }

    // ---- of a place

    int says(int part, int p, int beside) {
        int[] names = {p, now.more[p], beside, Integer.bitCount(now.gaps), now.end, now.reach};
        int v = texts.get(now.law)[part].of(names);
        int least = part == 0 ? 0 : 1;
        return v < least ? least : v > 99 ? 99 : v;
    }

    boolean isA(int kind, int wanted) {
        switch (kind) {
            case 0: return wanted == 0;
            case 1: return wanted == 1 || wanted == 0;
            case 2: return wanted == 2 || wanted == 0;
            case 3: return wanted == 3 || isA(1, wanted);
            case 4: return wanted == 4 || isA(2, wanted);
            default: return wanted == 5 || wanted == 0;
        }
    }

    int fallsOf(int p, int beside) {
        int k = now.kind[p];
        int f = says(0, p, beside);
        if (isA(k, 1)) {
            f += now.more[p];
        }
        if (isA(k, 2)) {
            f *= 2;
        }
        if (k == 3) {
            f += beside / 3;
        }
        if (k == 5) {
            f /= now.more[p] + 2;
        }
        return f < 0 ? 0 : f > 99 ? 99 : f;
    }

    int takesOf(int p) {
        int t = says(1, p, 0);
        if (isA(now.kind[p], 1)) {
            t += 2;
        }
        if (now.kind[p] == 4) {
            t += 3 + now.more[p];
        }
        return t < 1 ? 1 : t;
    }

    boolean stopsAt(int p) {
        return now.kind[p] == 4;
    }

    // ---- the row, the law

    int count(int what) {
        int[] all = {now.gaps, now.stands, now.end, now.reach, texts.size(), now.law, tape.length()};
        return what < 0 || what > 6 ? BAD : all[what];
    }

    int set(int what, int v) {
        if (what < 0 || what > 3) {
            return -5;
        }
        int[] most = {65535, 65535, 2, 2};
        if (v < 0 || v > most[what]) {
            return -7;
        }
        int was = count(what);
        if (what == 0) {
            now.gaps = v;
        } else if (what == 1) {
            now.stands = v;
        } else if (what == 2) {
            now.end = v;
        } else {
            now.reach = v;
        }
        return was;
    }

    int feed(int n, int a, int b, int c, int d, int e) {
        int[] all = {a, b, c, d, e};
        for (int v : all) {
            if (v < 0 || v > 255) {
                return BAD;
            }
        }
        if (n < 1 || n > 5) {
            return BAD;
        }
        if (tape.length() + n > 160) {
            return FULL;
        }
        for (int i = 0; i < n; i++) {
            tape.append((char) all[i]);
        }
        return tape.length();
    }

    int text() {
        if (texts.size() == 6) {
            return FULL;
        }
        String t = tape.toString();
        tape.setLength(0);
        try {
            texts.add(new Parser(t).all());
            return texts.size() - 1;
        } catch (Fault f) {
            return -100 - f.place;
        }
    }

    int force(int t) {
        if (t < 0 || t >= texts.size()) {
            return BAD;
        }
        int was = now.law;
        now.law = t;
        return was;
    }

    int asks(int part, int p, int beside) {
        return part < 0 || part > 2 || p < 0 || p > 15 || beside < 0 || beside > 16 ? BAD : says(part, p, beside);
    }

    int lay(int p, int kind, int more) {
        if (p < 0 || p > 15) {
            return -5;
        }
        if (kind < 0 || kind > 5 || more < 0 || more > 9) {
            return -7;
        }
        int was = 10 * now.kind[p] + now.more[p];
        now.kind[p] = kind;
        now.more[p] = more;
        return was;
    }

    int told(int p, int what) {
        if (p < 0 || p > 15) {
            return -5;
        }
        if (what < 0 || what > 5) {
            return -7;
        }
        int[] all = {now.kind[p], now.more[p], fallsOf(p, 0), takesOf(p), stopsAt(p) ? 1 : 0, says(2, p, 0)};
        return all[what];
    }

    // ---- plans

    List<Integer> bits(int set) {
        List<Integer> l = new ArrayList<>();
        for (int p = 0; p < 16; p++) {
            if ((set >> p & 1) != 0) {
                l.add(p);
            }
        }
        return l;
    }

    /** Each a list of places, as they lie. */
    List<List<Integer>> stretchesBy(int set) {
        List<List<Integer>> all = new ArrayList<>();
        List<Integer> open = null;
        for (int p = 0; p < 16; p++) {
            if (bits(set).contains(p)) {
                open = null;
            } else if (stopsAt(p)) {
                all.add(new ArrayList<>(List.of(p)));
                open = null;
            } else if (open != null) {
                open.add(p);
            } else {
                open = new ArrayList<>(List.of(p));
                all.add(open);
            }
        }
        return all;
    }

    List<Integer> upOrder(List<Integer> stretch, int way) {
        List<Integer> left = new ArrayList<>(stretch);
        List<Integer> order = new ArrayList<>();
        if (way == 0) {
            return left;
        }
        if (way == 1) {
            while (!left.isEmpty()) {
                order.add(left.remove(left.size() - 1));
            }
            return order;
        }
        int middle = stretch.get((stretch.size() - 1) / 2);
        order.add(middle);
        int low = middle - 1;
        int high = middle + 1;
        boolean right = true;
        while (order.size() < stretch.size()) {
            order.add(right ? high++ : low--);
            right = !right;
        }
        return order;
    }

    BigInteger big(long v) {
        return BigInteger.valueOf(v);
    }

    BigInteger meanOf(List<Integer> stretch, int way) {
        BigInteger t = big(0);
        int beside = 0;
        for (int p : upOrder(stretch, way)) {
            t = t.add(big(1000L * takesOf(p))).multiply(big(100)).divide(big(100 - fallsOf(p, beside)));
            beside++;
        }
        return t;
    }

    /** Every piece is the set of its places and its mean; a gap joins the pieces that reach up to it. */
    long planBy(int set, int way) {
        List<TreeSet<Integer>> pieces = new ArrayList<>();
        List<BigInteger> means = new ArrayList<>();
        BigInteger total = big(0);
        for (List<Integer> s : stretchesBy(set)) {
            pieces.add(new TreeSet<>(s));
            means.add(meanOf(s, way));
            total = total.add(meanOf(s, way));
        }
        for (int g : bits(set)) {
            TreeSet<Integer> joined = new TreeSet<>();
            BigInteger again = big(0);
            for (int i = pieces.size() - 1; !stopsAt(g) && i >= 0; i--) {
                TreeSet<Integer> piece = pieces.get(i);
                boolean beside = piece.contains(g - 1) || piece.contains(g + 1);
                if (beside && !stopsAt(piece.first())) {
                    joined.addAll(piece);
                    again = again.add(means.get(i));
                    pieces.remove(i);
                    means.remove(i);
                }
            }
            int falls = fallsOf(g, joined.size());
            BigInteger all = big(1000L * (takesOf(g) + says(2, g, joined.size()))).multiply(big(100))
                    .add(again.multiply(big(falls))).divide(big(100 - falls));
            total = total.add(all);
            joined.add(g);
            pieces.add(joined);
            means.add(again.add(all));
        }
        return total.min(big(1000000000000L)).longValueExact();
    }

    int stretch(int set, int what) {
        if (set < 0 || set > 65535 || what < 0 || what > 2) {
            return BAD;
        }
        int size = 0;
        int at = -1;
        for (List<Integer> s : stretchesBy(set)) {
            if (s.size() > size) {
                size = s.size();
                at = s.get(0);
            }
        }
        return what == 0 ? size : what == 1 ? at : stretchesBy(set).size();
    }

    long mean(int set, int way) {
        return set < 0 || set > 65535 || way < 0 || way > 2 ? NO : planBy(set, way);
    }

    long plan() {
        return planBy(now.gaps, now.end);
    }

    /** Less than another of as many: whose first place that differs is lower. */
    boolean lower(int set, int other) {
        List<Integer> a = bits(set);
        List<Integer> b = bits(other);
        for (int i = 0; i < Math.min(a.size(), b.size()); i++) {
            if (!a.get(i).equals(b.get(i))) {
                return a.get(i) < b.get(i);
            }
        }
        return false;
    }

    long best(int many, int what) {
        if (many < 0 || many > 4 || what < 0 || what > 1) {
            return NO;
        }
        int chosen = -1;
        long least = Long.MAX_VALUE;
        for (int set = 0; set < 65536; set++) {
            int size = Integer.bitCount(set);
            if (size > many) {
                continue;
            }
            long m = planBy(set, now.end);
            int was = chosen < 0 ? 99 : Integer.bitCount(chosen);
            if (m < least || m == least && (size < was || size == was && lower(set, chosen))) {
                least = m;
                chosen = set;
            }
        }
        return what == 0 ? chosen : least;
    }

    long every(int what) {
        if (what < 0 || what > 1) {
            return NO;
        }
        int chosen = -1;
        long least = Long.MAX_VALUE;
        for (int k = 16; k >= 2; k--) {
            int set = 0;
            for (int p = 0; p < 16; p++) {
                if ((p + 1) % k == 0) {
                    set += 1 << p;
                }
            }
            if (planBy(set, now.end) <= least) {
                least = planBy(set, now.end);
                chosen = k;
            }
        }
        return what == 0 ? chosen : least;
    }

    long which(int what) {
        if (what < 0 || what > 1) {
            return NO;
        }
        int chosen = 2;
        for (int way = 1; way >= 0; way--) {
            if (planBy(now.gaps, way) <= planBy(now.gaps, chosen)) {
                chosen = way;
            }
        }
        return what == 0 ? chosen : planBy(now.gaps, chosen);
    }

    long stop(int what) {
        if (what < 0 || what > 1) {
            return NO;
        }
        int at = -1;
        long most = 0;
        for (int p = 0; p < 16; p++) {
            Snap was = now.twin();
            long before = plan();
            now.kind[p] = 4;
            long less = before - plan();
            now = was;
            if (less > most) {
                most = less;
                at = p;
            }
        }
        return what == 0 ? at : most;
    }

    long dear(int what) {
        if (what < 0 || what > 1) {
            return NO;
        }
        int at = -1;
        long least = -1;
        for (int g : bits(now.gaps)) {
            long m = planBy(now.gaps - (1 << g), now.end);
            if (at < 0 || m < least) {
                at = g;
                least = m;
            }
        }
        return what == 0 ? at : least;
    }

    long likely(int set, int way) {
        if (set < 0 || set > 65535 || way < 0 || way > 2) {
            return NO;
        }
        long c = 1000000000L;
        for (List<Integer> s : stretchesBy(set)) {
            int beside = 0;
            for (int p : upOrder(s, way)) {
                c = c * (100 - fallsOf(p, beside)) / 100;
                beside++;
            }
        }
        for (int g : bits(set)) {
            c = c * (100 - fallsOf(g, 0)) / 100;
        }
        return c;
    }

    // ---- what stands

    /** The places of a fall, one after another. */
    List<Integer> fall(int p, int step, int stands, int reach) {
        List<Integer> chain = new ArrayList<>();
        int from = p;
        while (!stopsAt(from)) {
            int next = from + step;
            while (next >= 0 && next < 16 && (stands >> next & 1) == 0) {
                next += step;
            }
            if (next < 0 || next > 15 || Math.abs(next - from) - 1 > reach || stopsAt(next)) {
                return chain;
            }
            chain.add(next);
            from = next;
        }
        return chain;
    }

    int pushBy(int p, int side, int reach) {
        if ((now.stands >> p & 1) == 0) {
            return 0;
        }
        TreeSet<Integer> who = new TreeSet<>(List.of(p));
        if (side == 0 || side == 1) {
            who.addAll(fall(p, 1, now.stands, reach));
        }
        if (side == 0 || side == 2) {
            who.addAll(fall(p, -1, now.stands, reach));
        }
        int b = 0;
        for (int q : who) {
            b += 1 << q;
        }
        return b;
    }

    int push(int p, int side) {
        return p < 0 || p > 15 ? -5 : side < 0 || side > 2 ? -7 : pushBy(p, side, now.reach);
    }

    int far(int what) {
        if (what < 0 || what > 1) {
            return BAD;
        }
        int at = -1;
        int most = -1;
        for (int p : bits(now.stands)) {
            int n = 1 + fall(p, 1, now.stands, now.reach).size();
            if (n > most) {
                most = n;
                at = p;
            }
        }
        return what == 0 ? at : most;
    }

    int tip(int p, int side) {
        int who = push(p, side);
        if (who > 0) {
            now.stands -= who;
        }
        return who < 0 ? who : bits(who).size();
    }

    int put(int p, int seed) {
        if (p < 0 || p > 15) {
            return -5;
        }
        if (seed < 0 || seed > 99999) {
            return -7;
        }
        if ((now.stands >> p & 1) != 0) {
            return STATE;
        }
        return putUp(p, lot(big(seed + 1)));
    }

    BigInteger lot(BigInteger last) {
        return last.multiply(big(48271)).mod(big(2147483647));
    }

    int putUp(int p, BigInteger lot) {
        List<Integer> beside = new ArrayList<>(fall(p, 1, now.stands, now.reach));
        beside.addAll(fall(p, -1, now.stands, now.reach));
        if (lot.mod(big(100)).intValue() < fallsOf(p, beside.size())) {
            for (int q : beside) {
                now.stands -= 1 << q;
            }
            return beside.size();
        }
        now.stands += 1 << p;
        return -1;
    }

    // ---- rows by lots

    int[] rowBy(int seed, int n) {
        List<Integer> order = new ArrayList<>();
        for (List<Integer> s : stretchesBy(now.gaps)) {
            order.addAll(upOrder(s, now.end));
        }
        order.addAll(bits(now.gaps));
        int was = now.stands;
        int had = 0;
        int fell = 0;
        BigInteger lot = big(seed + 1);
        while (now.stands != 65535 && had < n) {
            int p = -1;
            for (int i = 15; i >= 0; i--) {
                p = (now.stands >> order.get(i) & 1) == 0 ? order.get(i) : p;
            }
            lot = lot(lot);
            had++;
            fell += putUp(p, lot) >= 0 ? 1 : 0;
        }
        int[] r = {had, now.stands, fell};
        now.stands = was;
        return r;
    }

    int drawn(int seed, int n, int what) {
        return seed < 0 || seed > 99999 || n < 0 || n > 400 || what < 0 || what > 2 ? BAD : rowBy(seed, n)[what];
    }

    long odds(int seed, int seeds, int n, int part) {
        if (seed < 0 || seed > 99999 || seeds < 1 || seeds > 20 || n < 0 || n > 400 || part < 0 || part > 1) {
            return NO;
        }
        int full = 0;
        for (int i = 0; i < seeds; i++) {
            full += rowBy(seed + i, n)[1] == 65535 ? 1 : 0;
        }
        int common = big(full).gcd(big(seeds)).intValue();
        return part == 0 ? full / common : seeds / common;
    }

    // ---- told heaps

    /** The numbers of a sheet as they are; null: it is missing. */
    int[] numbers(int s) {
        if (sheets[s] instanceof byte[]) {
            byte[] b = (byte[]) sheets[s];
            int[] r = new int[b.length];
            for (int i = 0; i < r.length; i++) {
                r[i] = b[i];
            }
            return r;
        }
        if (sheets[s] instanceof short[]) {
            short[] b = (short[]) sheets[s];
            int[] r = new int[b.length];
            for (int i = 0; i < r.length; i++) {
                r[i] = b[i];
            }
            return r;
        }
        return (int[]) sheets[s];
    }

    int sortOf(int s) {
        return sheets[s] instanceof byte[] ? 0 : sheets[s] instanceof short[] ? 1 : 2;
    }

    int refused(int s) {
        if (s < 0 || s > 3) {
            return BAD;
        }
        return sheets[s] == null ? -11 : numbers(s).length != 16 ? BAD : 1;
    }

    int firstOther(int[] told, int who) {
        for (int p = 0; p < 16; p++) {
            if (told[p] != (who >> p & 1)) {
                return p;
            }
        }
        return -1;
    }

    int judge(int s, int p, int side) {
        if (refused(s) < 0) {
            return refused(s);
        }
        int who = push(p, side);
        return who < 0 ? who : firstOther(numbers(s), who);
    }

    int origin(int s, int side) {
        if (refused(s) < 0) {
            return refused(s);
        }
        if (side < 0 || side > 2) {
            return -7;
        }
        int b = 0;
        for (int p : bits(now.stands)) {
            b += judge(s, p, side) == -1 ? 1 << p : 0;
        }
        return b;
    }

    int how(int s, int p, int sortSide) {
        if (refused(s) < 0) {
            return refused(s);
        }
        if (p < 0 || p > 15) {
            return -5;
        }
        if (!Arrays.asList(0, 1, 2, 10, 11, 12).contains(sortSide)) {
            return -7;
        }
        int b = 0;
        for (int i = 0; i < 3; i++) {
            int who = sortSide < 10 ? pushBy(p, i, now.reach) : pushBy(p, sortSide - 10, i);
            b += firstOther(numbers(s), who) == -1 ? 1 << i : 0;
        }
        return b;
    }

    // ---- told chances

    int check(int s) {
        if (refused(s) < 0) {
            return refused(s);
        }
        for (int p = 0; p < 16; p++) {
            if (numbers(s)[p] != fallsOf(p, 0)) {
                return p;
            }
        }
        return -1;
    }

    int kinds(int s, int p, int sort) {
        if (refused(s) < 0) {
            return refused(s);
        }
        if (p < 0 || p > 15) {
            return -5;
        }
        if (sort < 0 || sort > 1) {
            return -7;
        }
        int b = 0;
        for (int i = 0; i < (sort == 0 ? 6 : 10); i++) {
            Snap was = now.twin();
            (sort == 0 ? now.kind : now.more)[p] = i;
            b += fallsOf(p, 0) == numbers(s)[p] ? 1 << i : 0;
            now = was;
        }
        return b;
    }

    int laws(int s) {
        if (refused(s) < 0) {
            return refused(s);
        }
        int b = 0;
        int was = now.law;
        for (int t = 0; t < texts.size(); t++) {
            now.law = t;
            b += check(s) == -1 ? 1 << t : 0;
        }
        now.law = was;
        return b;
    }

    long amiss(int s) {
        if (refused(s) < 0) {
            return NO;
        }
        BigInteger sum = big(0);
        for (int p = 0; p < 16; p++) {
            sum = sum.add(big(numbers(s)[p]).subtract(big(fallsOf(p, 0))).abs());
        }
        return sum.longValueExact();
    }

    int film(int s, int p, int side) {
        if (s < 0 || s > 3) {
            return BAD;
        }
        if (p < 0 || p > 16) {
            return -5;
        }
        if (side < 0 || side > 2) {
            return -7;
        }
        byte[] b = new byte[16];
        for (int i = 0; i < 16; i++) {
            b[i] = (byte) (p == 16 ? fallsOf(i, 0) : pushBy(p, side, now.reach) >> i & 1);
        }
        sheets[s] = b;
        return 16;
    }

    int image() {
        image = now.twin();
        return bits(now.stands).size();
    }

    int back() {
        if (image == null) {
            return STATE;
        }
        now = image.twin();
        return bits(now.stands).size();
    }

    // ---- the host

    int sheet(int s, int sort, int n) {
        if (s < 0 || s > 3 || sort < -1 || sort > 2 || sort >= 0 && n > 40) {
            return BAD;
        }
        if (sort >= 0 && n < 0) {
            return -14;
        }
        sheets[s] = sort == -1 ? null : sort == 0 ? (Object) new byte[n] : sort == 1 ? new short[n] : new int[n];
        return 1;
    }

    int cell(int s, int i, int v) {
        if (s < 0 || s > 3) {
            return BAD;
        }
        try {
            if (sheets[s] instanceof byte[]) {
                ((byte[]) sheets[s])[i] = (byte) v;
            } else if (sheets[s] instanceof short[]) {
                ((short[]) sheets[s])[i] = (short) v;
            } else {
                ((int[]) sheets[s])[i] = v;
            }
            return 1;
        } catch (NullPointerException e) {
            return -11;
        } catch (IndexOutOfBoundsException e) {
            return -12;
        }
    }

    int copy(int s, int i, int other, int j, int n) {
        if (s < 0 || s > 3 || other < 0 || other > 3) {
            return BAD;
        }
        try {
            System.arraycopy(sheets[s], i, sheets[other], j, n);
            return n;
        } catch (NullPointerException e) {
            return -11;
        } catch (ArrayStoreException e) {
            return -13;
        } catch (IndexOutOfBoundsException e) {
            return -12;
        }
    }

    int layBy(int s, int sort, int at, int n) {
        if (s < 0 || s > 3 || sort < 0 || sort > 2 || n < 0 || n > 13) {
            return BAD;
        }
        if (sheets[s] == null) {
            return -11;
        }
        if (sortOf(s) != sort) {
            return -13;
        }
        int laid = 0;
        int[] by = numbers(s);
        try {
            for (int k = 0; k < n; k++) {
                laid += lay(by[at + 3 * k], by[at + 3 * k + 1], by[at + 3 * k + 2]) >= 0 ? 1 : 0;
            }
            return laid;
        } catch (IndexOutOfBoundsException e) {
            return -12;
        }
    }

    long taken(int i, int kind) {
        if (kind < 0 || kind > 6) {
            return BAD;
        }
        if (i < 0 || i > 31) {
            return -12;
        }
        if (i < 16) {
            return kind < 6 && isA(now.kind[i], kind) ? i : -13;
        }
        if (!bits(now.stands).contains(i - 16)) {
            return -11;
        }
        return kind == 6 ? bits(now.stands).indexOf(i - 16) + 1 : -13;
    }
}
