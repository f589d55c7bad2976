import java.math.BigInteger;
import java.util.ArrayList;
import java.util.List;
import java.util.regex.Matcher;
import java.util.regex.Pattern;

/**
 * The document once more, slow and plain, to hold the class against: one list of numbers a horse
 * (kind, figure, home, at, longing), tables by kind, and copies made wherever something is in mind.
 */
final class Model {
    static final int[] UNDER = {-1, 0, 0, 0, 0, 0, 3, 1};
    private static final Pattern LAND =
            Pattern.compile("(?:h[0-9]{6};|r[0-9]{3};|o[0-9]{2};|d[0-9]{2};|l[0-9]{3};)+");

    List<int[]> all = new ArrayList<>();
    int oats = 0;
    int day = 0;
    Model taken = null;
    final int[] holds = new int[8];
    final int[] kinds = new int[8];
    final int[] figures = new int[8];
    final int[] sorts = new int[8];
    final int[][] rows = new int[8][0];

    Model mind() {
        Model m = new Model();
        for (int[] h : all) {
            m.all.add(h.clone());
        }
        m.oats = oats;
        m.day = day;
        return m;
    }

    void become(Model m) {
        all = m.mind().all;
        oats = m.oats;
        day = m.day;
    }

    // ---- kinds

    int goal(int[] h) {
        int home = h[2];
        int other = 20 - home;
        int toHome = Math.abs(home - h[3]);
        int toOther = Math.abs(other - h[3]);
        switch (h[0]) {
            case 1: case 7: return h[3];
            case 2: return other;
            case 3: return toOther < toHome ? other : home;
            case 5: return oats;
            case 6: return toOther > toHome ? other : home;
            default: return home;
        }
    }

    int pines(int kind, int figure, int miles) {
        switch (kind) {
            case 0: return 1 + miles / 5;
            case 1: return 0;
            case 2: return pines(0, figure, miles) * 2;
            case 4: return pines(0, figure, miles) + figure;
            case 5: return pines(0, figure, miles) + figure / 2;
            case 6: return pines(3, figure, miles) + 1;
            default: return pines(UNDER[kind], figure, miles);
        }
    }

    int pace(int kind, int figure, int longing) {
        switch (kind) {
            case 0: return 1 + longing / 4;
            case 1: return 2;
            case 2: return 1 + longing / 2;
            case 5: return pace(0, figure, longing) + 1;
            case 6: return pace(3, figure, longing) + figure / 3;
            case 7: return pace(1, figure, longing) + 1;
            default: return pace(UNDER[kind], figure, longing);
        }
    }

    int pace(int[] h) {
        return pace(h[0], h[1], h[4]);
    }

    static int walk(int kind) {
        return new int[] {1, 2, 1, 1, 1, 1, 2, 3}[kind];
    }

    static int cost(int kind, int figure) {
        return new int[] {2, 1, 2 + figure, 4, 7, 1, 4 + figure, 4}[kind];
    }

    static int toss(int kind, int figure) {
        if (figure == 0 || kind == 1 || kind == 7) {
            return -15;
        }
        return kind == 3 ? 100 + figure : kind == 6 ? 200 + cost(6, figure) : figure;
    }

    // ---- days and rides

    void goBy(int n) {
        for (int i = 0; i < n; i++) {
            day++;
            for (int[] h : all) {
                int miles = Math.abs(goal(h) - h[3]);
                h[4] = miles == 0 ? h[4] / 2 : Math.min(99, h[4] + pines(h[0], h[1], miles));
            }
        }
    }

    /** One mile after the other: a pace ends where its goal or the yard is, a walk at the yard. */
    void step(int[] h, int yard) {
        int goal = goal(h);
        int way = yard > h[3] ? 1 : -1;
        boolean towards = way > 0 ? goal > h[3] : goal < h[3];
        int miles = towards ? pace(h) : walk(h[0]);
        for (int i = 0; i < miles && h[3] != yard && !(towards && h[3] == goal); i++) {
            h[3] += way;
        }
    }

    int ride(int number, int yard) {
        int n = 0;
        for (; all.get(number)[3] != yard; n++) {
            step(all.get(number), yard);
            goBy(1);
        }
        return n;
    }

    int howLong(int h, int yard) {
        return mind().ride(h, yard);
    }

    int later(int h, int waits, int yard) {
        Model m = mind();
        m.goBy(waits);
        return waits + m.ride(h, yard);
    }

    int longing() {
        int sum = 0;
        for (int[] h : all) {
            sum += h[4];
        }
        return sum;
    }

    int resting() {
        int n = 0;
        for (int[] h : all) {
            n += goal(h) == h[3] ? 1 : 0;
        }
        return n;
    }

    // ---- the text

    /** The first place up to and with which no text begins so; the end if something lacks; or -1. */
    static int lack(String text) {
        for (int i = 1; i <= text.length(); i++) {
            Matcher m = LAND.matcher(text.substring(0, i));
            if (!m.matches() && !m.hitEnd()) {
                return i - 1;
            }
        }
        return LAND.matcher(text).matches() ? -1 : text.length();
    }

    int land(String text) {
        int lack = lack(text);
        if (lack >= 0) {
            return -1000 - lack;
        }
        Model m = mind();
        int place = 0;
        String[] statements = text.split(";");
        for (String s : statements) {
            if (!m.statement(s)) {
                return -2000 - place;
            }
            place += s.length() + 1;
        }
        become(m);
        return statements.length;
    }

    private boolean statement(String s) {
        int last = Integer.parseInt(s.substring(s.length() - 2));
        int first = s.charAt(1) - '0';
        switch (s.charAt(0)) {
            case 'h':
                int home = Integer.parseInt(s.substring(3, 5));
                if (first > 7 || home > 20 || last > 20 || all.size() == 7) {
                    return false;
                }
                all.add(new int[] {first, s.charAt(2) - '0', home, last, 0});
                return true;
            case 'r':
                if (first >= all.size() || last > 20 || day + howLong(first, last) > 999) {
                    return false;
                }
                ride(first, last);
                return true;
            case 'o':
                oats = last;
                return last <= 20;
            case 'd':
                if (last < 1 || last > 60 || day + last > 999) {
                    return false;
                }
                goBy(last);
                return true;
            default:
                if (first >= all.size()) {
                    return false;
                }
                all.get(first)[4] = last;
                return true;
        }
    }

    // ---- in mind

    /** Fewest days and first horse of all chains, as {days, horse}; {-4, -4} if there is none. */
    int[] chain(int from, int to) {
        if (from == to) {
            return new int[] {0, -4};
        }
        int[] best = {-4, -4};
        chains(from, to, new ArrayList<>(), 0, best);
        return best;
    }

    private void chains(int here, int to, List<Integer> used, int days, int[] best) {
        if (here == to) {
            if (best[0] < 0 || days < best[0]) {
                best[0] = days;
                best[1] = used.get(0);
            }
            return;
        }
        for (int h = 0; h < all.size() && used.size() < 3; h++) {
            for (int y = 0; y <= 20; y++) {
                if (all.get(h)[3] == here && y != here && !used.contains(h)) {
                    Model m = mind();
                    int n = m.ride(h, y);
                    List<Integer> now = new ArrayList<>(used);
                    now.add(h);
                    m.chains(y, to, now, days + n, best);
                }
            }
        }
    }

    int fastest(int n) {
        Model m = mind();
        m.goBy(n);
        int best = -4;
        for (int h = 0; h < m.all.size(); h++) {
            if (best < 0 || m.pace(m.all.get(h)) > m.pace(m.all.get(best))) {
                best = h;
            }
        }
        return best;
    }

    int ripe(int h, int v) {
        for (int n = 0; n <= 60; n++) {
            Model m = mind();
            m.goBy(n);
            if (m.pace(m.all.get(h)) >= v) {
                return n;
            }
        }
        return -4;
    }

    int leastLonging(int h, int yard, int n) {
        for (int v = 0; v <= 99; v++) {
            Model m = mind();
            m.all.get(h)[4] = v;
            if (m.ride(h, yard) <= n) {
                return v;
            }
        }
        return -4;
    }

    boolean told(int d, int[] changed, int h, int yard) {
        Model m = mind();
        m.all.set(h, changed);
        int least = sorts[d] == 0 ? Byte.MIN_VALUE : sorts[d] == 1 ? Short.MIN_VALUE : Integer.MIN_VALUE;
        for (int i = 0; i < rows[d].length; i++) {
            if (rows[d][i] != least && rows[d][i] != changed[3]) {
                return false;
            }
            if (changed[3] != yard) {
                m.step(changed, yard);
                m.goBy(1);
            }
        }
        return true;
    }

    int bits(int d, int h, int yard, int field, int n) {
        int bits = 0;
        for (int v = 0; v < n; v++) {
            int[] changed = all.get(h).clone();
            changed[field] = v;
            bits |= told(d, changed, h, yard) ? 1 << v : 0;
        }
        return bits;
    }

    int two(int a, int b, int yard) {
        int[][] points = new int[4][2];
        for (int pair = 0; pair < 4; pair++) {
            int daysOfA = later(a, pair / 2 * 5, yard);
            int daysOfB = later(b, pair % 2 * 5, yard);
            points[pair][0] = pair / 2 + (daysOfA < daysOfB ? 3 : 0);
            points[pair][1] = pair % 2 + (daysOfB < daysOfA ? 3 : 0);
        }
        for (int pair = 0; pair < 4; pair++) {
            if (points[pair][0] >= points[pair ^ 2][0] && points[pair][1] >= points[pair ^ 1][1]) {
                return pair / 2 * 10 + pair % 2;
            }
        }
        return -4;
    }

    /** All the ways in which storms can come, one behind the other. */
    long storm(int h, int v, int n, int t, int part) {
        BigInteger above = BigInteger.ZERO;
        for (int storms = 0; storms < 1 << n; storms++) {
            Model m = mind();
            BigInteger weight = BigInteger.ONE;
            for (int i = 0; i < n; i++) {
                if ((storms >> i & 1) == 0) {
                    m.goBy(1);
                    weight = weight.multiply(BigInteger.valueOf(t - 1));
                }
            }
            if (m.pace(m.all.get(h)) >= v) {
                above = above.add(weight);
            }
        }
        return part(above, BigInteger.valueOf(t).pow(n), part);
    }

    static long part(BigInteger above, BigInteger below, int part) {
        BigInteger divisor = above.gcd(below);
        return (part == 0 ? above : below).divide(divisor).longValueExact();
    }

    int forged(int d) {
        Model m = mind();
        int here = -1;
        for (int i = 0; i < rows[d].length / 2; i++) {
            int h = rows[d][2 * i];
            int y = rows[d][2 * i + 1];
            if (h < 0 || h >= m.all.size() || y < 0 || y > 20) {
                return i;
            }
            if (i > 0 && m.all.get(h)[3] != here) {
                return i;
            }
            m.ride(h, y);
            here = y;
        }
        return -4;
    }

    int judge(int d) {
        int least = sorts[d] == 0 ? Byte.MIN_VALUE : sorts[d] == 1 ? Short.MIN_VALUE : Integer.MIN_VALUE;
        for (int i = 0; i < rows[d].length; i++) {
            Model m = mind();
            m.goBy(i);
            if (rows[d][i] != least && rows[d][i] != m.longing()) {
                return i;
            }
        }
        return -4;
    }

    int lands(int n, int z, int what) {
        int sum = 0;
        for (int i = 0; i < n; i++) {
            Model m = mind();
            for (int[] h : m.all) {
                z = z * 1103515245 + 12345;
                h[3] = ((z & Integer.MAX_VALUE) >>> 16) % 21;
            }
            m.goBy(10);
            sum += what == 0 ? m.longing() : m.resting();
        }
        return sum;
    }
}
