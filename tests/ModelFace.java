import java.math.BigInteger;

/** The calls of the face, with their refusals in the document's order, answered by the model. */
final class ModelFace {
    static final String[] CALLS = {
        "land", "horse", "comes", "rides", "taken", "longs", "hangs", "days", "howLong", "behind",
        "chain", "hurry", "fastest", "away", "ripe", "leastLonging", "soonest", "race", "walkAhead",
        "hang", "meet", "spread", "fees", "homes", "whatIs", "two", "storm", "mean", "forged",
        "judge", "lands", "image", "restore", "count", "keep", "row", "put", "element", "copy",
        "cost", "toss"
    };
    static final int[] ARGUMENTS = {
        1, 2, 3, 2, 2, 2, 1, 1, 2, 3,
        3, 2, 1, 0, 2, 3, 3, 3, 4,
        2, 1, 0, 2, 4, 4, 3, 5, 1, 1,
        1, 3, 0, 0, 1, 4, 3, 3, 2, 5,
        1, 1
    };
    static final long THROWN = 5000000000L;

    static long ask(HiredByLonging x, int call, int[] a) {
        switch (call) {
            case 0: return x.land(a[0]);
            case 1: return x.horse(a[0], a[1]);
            case 2: return x.comes(a[0], a[1], a[2]);
            case 3: return x.rides(a[0], a[1]);
            case 4: return x.taken(a[0], a[1]);
            case 5: return x.longs(a[0], a[1]);
            case 6: return x.hangs(a[0]);
            case 7: return x.days(a[0]);
            case 8: return x.howLong(a[0], a[1]);
            case 9: return x.behind(a[0], a[1], a[2]);
            case 10: return x.chain(a[0], a[1], a[2]);
            case 11: return x.hurry(a[0], a[1]);
            case 12: return x.fastest(a[0]);
            case 13: return x.away();
            case 14: return x.ripe(a[0], a[1]);
            case 15: return x.leastLonging(a[0], a[1], a[2]);
            case 16: return x.soonest(a[0], a[1], a[2]);
            case 17: return x.race(a[0], a[1], a[2]);
            case 18: return x.walkAhead(a[0], a[1], a[2], a[3]);
            case 19: return x.hang(a[0], a[1]);
            case 20: return x.meet(a[0]);
            case 21: return x.spread();
            case 22: return x.fees(a[0], a[1]);
            case 23: return x.homes(a[0], a[1], a[2], a[3]);
            case 24: return x.whatIs(a[0], a[1], a[2], a[3]);
            case 25: return x.two(a[0], a[1], a[2]);
            case 26: return x.storm(a[0], a[1], a[2], a[3], a[4]);
            case 27: return x.mean(a[0]);
            case 28: return x.forged(a[0]);
            case 29: return x.judge(a[0]);
            case 30: return x.lands(a[0], a[1], a[2]);
            case 31: return x.image();
            case 32: return x.restore();
            case 33: return x.count(a[0]);
            case 34: return x.keep(a[0], a[1], a[2], a[3]);
            case 35: return x.row(a[0], a[1], a[2]);
            case 36: return x.put(a[0], a[1], a[2]);
            case 37:
                int thrown = Check.thrownByElement(x, a[0], a[1]);
                return thrown == 0 ? x.element(a[0], a[1]) : THROWN + thrown;
            case 38: return x.copy(a[0], a[1], a[2], a[3], a[4]);
            case 39: return x.cost(a[0]);
            default: return x.toss(a[0]);
        }
    }

    private final Model m = new Model();

    private boolean h(int h) {
        return h >= 0 && h < m.all.size();
    }

    private static boolean in(int v, int least, int most) {
        return v >= least && v <= most;
    }

    private static boolean y(int yard) {
        return in(yard, 0, 20);
    }

    private static boolean w(int what) {
        return in(what, 0, 1);
    }

    /** The refusals -1, -11, -12 of a call that wants something of a shelf; 0 if it is there. */
    private int shelf(boolean one, int d, int wanted) {
        if (!one || !in(d, 0, 7)) {
            return -1;
        }
        return m.holds[d] == 0 ? -11 : m.holds[d] != wanted ? -12 : 0;
    }

    private int least(int n, java.util.function.IntUnaryOperator of) {
        int best = -4;
        for (int i = 0; i < n; i++) {
            if (best < 0 || of.applyAsInt(i) < of.applyAsInt(best)) {
                best = i;
            }
        }
        return best;
    }

    long answer(int call, int[] a) {
        if (call <= 7 || call >= 31 && call <= 33) {
            return told(call, a);
        }
        if (call >= 34) {
            return shelves(call, a);
        }
        return call <= 22 ? mind(call, a) : rest(call, a);
    }

    private long told(int call, int[] a) {
        switch (call) {
            case 0: {
                int no = shelf(true, a[0], 2);
                if (no != 0) {
                    return no;
                }
                if (m.sorts[a[0]] != 0) {
                    return -12;
                }
                StringBuilder text = new StringBuilder();
                for (int b : m.rows[a[0]]) {
                    text.append((char) (b & 255));
                }
                return m.land(text.toString());
            }
            case 1: {
                if (!h(a[0]) || !in(a[1], 0, 7)) {
                    return -1;
                }
                int[] one = m.all.get(a[0]);
                return a[1] < 5 ? one[a[1]] : a[1] == 5 ? m.goal(one) : a[1] == 6 ? m.pace(one)
                        : Model.walk(one[0]);
            }
            case 2: {
                int no = shelf(y(a[1]) && y(a[2]), a[0], 1);
                if (no != 0) {
                    return no;
                }
                if (m.all.size() == 7) {
                    return -2;
                }
                m.all.add(new int[] {m.kinds[a[0]], m.figures[a[0]], a[1], a[2], 0});
                return m.all.size() - 1;
            }
            case 3:
                if (!h(a[0]) || !y(a[1])) {
                    return -1;
                }
                return m.day + m.howLong(a[0], a[1]) > 999 ? -3 : m.ride(a[0], a[1]);
            case 4: case 5: {
                if (!h(a[0]) || !in(a[1], 0, call == 4 ? 20 : 99)) {
                    return -1;
                }
                int before = m.all.get(a[0])[call - 1];
                m.all.get(a[0])[call - 1] = a[1];
                return before;
            }
            case 6: {
                if (!y(a[0])) {
                    return -1;
                }
                int before = m.oats;
                m.oats = a[0];
                return before;
            }
            case 7:
                if (!in(a[0], 1, 60)) {
                    return -1;
                }
                if (m.day + a[0] > 999) {
                    return -3;
                }
                m.goBy(a[0]);
                return m.longing();
            case 31:
                m.taken = m.mind();
                return m.day;
            case 32:
                if (m.taken == null) {
                    return -3;
                }
                m.become(m.taken);
                return m.day;
            default: {
                int pace = 0;
                for (int[] one : m.all) {
                    pace += m.pace(one);
                }
                int[] told = {m.all.size(), m.oats, m.day, m.longing(), m.resting(), pace};
                return in(a[0], 0, 5) ? told[a[0]] : -1;
            }
        }
    }

    private long mind(int call, int[] a) {
        switch (call) {
            case 8: return h(a[0]) && y(a[1]) ? m.howLong(a[0], a[1]) : -1;
            case 9: {
                if (!h(a[0]) || !in(a[1], 0, 60) || !w(a[2])) {
                    return -1;
                }
                Model then = m.mind();
                then.goBy(a[1]);
                return a[2] == 0 ? then.all.get(a[0])[4] : then.pace(then.all.get(a[0]));
            }
            case 10: return y(a[0]) && y(a[1]) && w(a[2]) ? m.chain(a[0], a[1])[a[2]] : -1;
            case 11: {
                if (!y(a[0]) || !w(a[1])) {
                    return -1;
                }
                int best = least(m.all.size(), h -> m.howLong(h, a[0]));
                return best < 0 || a[1] == 0 ? best : m.howLong(best, a[0]);
            }
            case 12: return in(a[0], 0, 60) ? m.fastest(a[0]) : -1;
            case 13: {
                int bits = 0;
                for (int h = 0; h < m.all.size(); h++) {
                    bits |= m.goal(m.all.get(h)) == m.all.get(h)[3] ? 0 : 1 << h;
                }
                return bits;
            }
            case 14: return h(a[0]) && in(a[1], 1, 60) ? m.ripe(a[0], a[1]) : -1;
            case 15:
                return h(a[0]) && y(a[1]) && in(a[2], 0, 20) ? m.leastLonging(a[0], a[1], a[2]) : -1;
            case 16: {
                if (!h(a[0]) || !y(a[1]) || !w(a[2])) {
                    return -1;
                }
                int best = least(31, wait -> m.later(a[0], wait, a[1]));
                return a[2] == 0 ? best : m.later(a[0], best, a[1]);
            }
            case 17: {
                if (!h(a[0]) || !h(a[1]) || a[0] == a[1] || !y(a[2])) {
                    return -1;
                }
                int n = Integer.compare(m.howLong(a[0], a[2]), m.howLong(a[1], a[2]));
                return n == 0 ? -4 : n < 0 ? a[0] : a[1];
            }
            case 18: {
                if (!h(a[0]) || !y(a[1]) || !in(a[2], 0, 30) || !w(a[3])) {
                    return -1;
                }
                java.util.function.IntUnaryOperator of = yard -> {
                    Model then = m.mind();
                    then.all.get(a[0])[3] = yard;
                    return then.later(a[0], a[2], a[1]) - a[2];
                };
                int best = least(21, of);
                return a[3] == 0 ? best : of.applyAsInt(best);
            }
            case 19: {
                if (!in(a[0], 0, 60) || !w(a[1])) {
                    return -1;
                }
                java.util.function.IntUnaryOperator of = yard -> {
                    Model then = m.mind();
                    then.oats = yard;
                    then.goBy(a[0]);
                    return -then.longing();
                };
                int best = least(21, of);
                return a[1] == 0 ? best : -of.applyAsInt(best);
            }
            case 20: {
                if (!w(a[0])) {
                    return -1;
                }
                java.util.function.IntUnaryOperator of = yard -> {
                    int sum = 0;
                    for (int h = 0; h < m.all.size(); h++) {
                        sum += m.howLong(h, yard);
                    }
                    return sum;
                };
                int best = least(21, of);
                return a[0] == 0 ? best : of.applyAsInt(best);
            }
            case 21: {
                int n = m.all.size();
                int best = least(n * n, p -> p / n < p % n
                        ? -Math.abs(m.all.get(p / n)[3] - m.all.get(p % n)[3]) : 1);
                return n < 2 ? -4 : best / n * 10 + best % n;
            }
            default:
                if (!y(a[1]) || a[0] != -1 && !h(a[0])) {
                    return -1;
                }
                return a[0] >= 0 ? fees(a[0], a[1]) : least(m.all.size(), h -> fees(h, a[1]));
        }
    }

    private int fees(int h, int yard) {
        return Model.cost(m.all.get(h)[0], m.all.get(h)[1]) * m.howLong(h, yard);
    }

    private long rest(int call, int[] a) {
        switch (call) {
            case 23: case 24: {
                int no = shelf(h(a[1]) && y(a[2]) && w(a[3]), a[0], 2);
                if (no != 0) {
                    return no;
                }
                if (call == 24) {
                    return m.bits(a[0], a[1], a[2], a[3], a[3] == 0 ? 8 : 10);
                }
                int bits = m.bits(a[0], a[1], a[2], 2, 21);
                return a[3] == 0 ? bits : Integer.bitCount(bits);
            }
            case 25:
                return h(a[0]) && h(a[1]) && a[0] != a[1] && y(a[2]) ? m.two(a[0], a[1], a[2]) : -1;
            case 26:
                return h(a[0]) && in(a[1], 1, 60) && in(a[2], 0, 7) && in(a[3], 2, 20) && w(a[4])
                        ? m.storm(a[0], a[1], a[2], a[3], a[4]) : 1000000001L;
            case 27:
                return w(a[0]) ? Model.part(BigInteger.valueOf(m.longing()),
                        BigInteger.valueOf(m.all.isEmpty() ? 1 : m.all.size()), a[0]) : 1000000001L;
            case 28: {
                int no = shelf(true, a[0], 2);
                return no != 0 ? no : m.rows[a[0]].length % 2 == 1 ? -13 : m.forged(a[0]);
            }
            case 29: {
                int no = shelf(true, a[0], 2);
                return no != 0 ? no : m.judge(a[0]);
            }
            default: return in(a[0], 1, 20) && w(a[2]) ? m.lands(a[0], a[1], a[2]) : -1;
        }
    }

    private static int kept(int sort, int v) {
        return sort == 0 ? v << 24 >> 24 : sort == 1 ? v << 16 >> 16 : v;
    }

    private long shelves(int call, int[] a) {
        int d = a[0];
        switch (call) {
            case 34:
                if (!in(d, 0, 7) || !w(a[1]) || a[1] == 1 && (!in(a[2], 0, 7) || !in(a[3], 0, 9))) {
                    return -1;
                }
                m.holds[d] = a[1];
                m.kinds[d] = a[2];
                m.figures[d] = a[3];
                return 0;
            case 35:
                if (!in(d, 0, 7) || !in(a[1], 0, 2) || a[2] > 100) {
                    return -1;
                }
                if (a[2] < 0) {
                    return -14;
                }
                m.holds[d] = 2;
                m.sorts[d] = a[1];
                m.rows[d] = new int[a[2]];
                return 0;
            case 36: {
                int no = shelf(true, d, 2);
                if (no != 0) {
                    return no;
                }
                if (!in(a[1], 0, m.rows[d].length - 1)) {
                    return -13;
                }
                m.rows[d][a[1]] = kept(m.sorts[d], a[2]);
                return 0;
            }
            case 37:
                if (!in(d, 0, 7)) {
                    return THROWN + 1;
                }
                return m.holds[d] == 2 && in(a[1], 0, m.rows[d].length - 1)
                        ? m.rows[d][a[1]] : THROWN + 2;
            case 38: {
                int e = a[2];
                if (!in(d, 0, 7) || !in(e, 0, 7)) {
                    return -1;
                }
                if (m.holds[d] == 0 || m.holds[e] == 0) {
                    return -11;
                }
                if (m.holds[d] == 1 || m.holds[e] == 1 || m.sorts[d] != m.sorts[e]) {
                    return -12;
                }
                if (a[1] < 0 || a[3] < 0 || a[4] < 0 || (long) a[1] + a[4] > m.rows[d].length
                        || (long) a[3] + a[4] > m.rows[e].length) {
                    return -13;
                }
                int[] source = m.rows[d].clone();
                for (int i = 0; i < a[4]; i++) {
                    m.rows[e][a[3] + i] = source[a[1] + i];
                }
                return a[4];
            }
            default: {
                int no = shelf(true, d, 1);
                if (no != 0) {
                    return no;
                }
                return call == 39 ? Model.cost(m.kinds[d], m.figures[d])
                        : Model.toss(m.kinds[d], m.figures[d]);
            }
        }
    }
}
