import java.util.Arrays;

/**
 * Mixed runs (the same each time) on the class and on the model of the document; every answer
 * must be alike, and all that can be asked without a change must be alike behind each run.
 */
public final class ModelTest {
    private static final int[] ODD = {
        -2147483648, -1000000000, -101, -8, -2, -1, 7, 8, 9, 10, 21, 22, 31, 61, 100, 101, 1000, 2147483647
    };
    private final Check check = new Check();
    private final Numbers random;
    private HiredByLonging x;
    private ModelFace model;
    private int run;
    private int calls;

    private ModelTest(long seed) {
        random = new Numbers(seed);
    }

    public static void main(String[] args) {
        ModelTest test = new ModelTest(20261118);
        for (test.run = 0; test.run < 1500; test.run++) {
            test.oneRun();
        }
        test.check.end("ModelTest");
    }

    private void oneRun() {
        x = new HiredByLonging();
        model = new ModelFace();
        calls = 0;
        boolean wild = run % 3 == 0;
        for (int i = random.nextInt(8); i > 0; i--) {
            both(34, 1, 1, random.nextInt(8), random.nextInt(10));
            both(2, 1, random.nextInt(21), random.nextInt(4) == 0 ? random.nextInt(21) : random.nextInt(4) * 5);
        }
        if (run % 5 == 0) {
            late();
        }
        // An object answers for 512 calls only, and a look at the end needs some of them.
        for (int i = 0; i < 40 && calls < 350; i++) {
            if (random.nextInt(10) == 0) {
                text();
            } else if (random.nextInt(8) == 0) {
                ride();
            } else {
                int call = random.nextInt(ModelFace.CALLS.length);
                int[] a = new int[ModelFace.ARGUMENTS[call]];
                for (int k = 0; k < a.length; k++) {
                    a[k] = argument(wild);
                }
                fit(call, a);
                both(call, a);
            }
        }
        look();
    }

    /** So late that days and rides come to the last day. */
    private void late() {
        for (int i = 0; i < 16; i++) {
            both(7, 60);
        }
        both(7, 20 + random.nextInt(20));
    }

    /** Both are asked, and must answer alike. */
    private long both(int call, int... a) {
        calls++;
        long want = model.answer(call, a);
        long got = ModelFace.ask(x, call, a);
        check.due("run " + run + ": " + ModelFace.CALLS[call] + Arrays.toString(a), got, want);
        return want;
    }

    private int argument(boolean wild) {
        if (wild && random.nextInt(8) == 0) {
            return random.nextInt(3) == 0 ? random.nextInt() : ODD[random.nextInt(ODD.length)];
        }
        int n = random.nextInt(4);
        return random.nextInt(n == 0 ? 2 : n == 1 ? 7 : n == 2 ? 8 : 21);
    }

    /** Most of what is asked should not be refused, so that the answers say something. */
    private void fit(int call, int[] a) {
        if (random.nextInt(8) == 0 || a.length == 0) {
            return;
        }
        int last = a.length - 1;
        boolean what = call == 9 || call == 10 || call == 11 || call == 16 || call == 18 || call == 19
                || call == 20 || call == 23 || call == 24 || call == 26 || call == 27 || call == 30;
        if (what) {
            a[last] &= 1;
        }
        int horses = Math.max(1, (int) model.answer(33, new int[] {0}));
        int first = call == 23 || call == 24 ? 1 : 0;
        boolean ofHorse = call == 1 || call == 3 || call == 4 || call == 5 || call == 8 || call == 9
                || call >= 14 && call <= 18 || call == 25 || call == 26 || first == 1;
        if (ofHorse) {
            a[first] = (a[first] & 0xff) % horses;
        }
        if (call == 22) {
            a[0] = (a[0] & 0xff) % (horses + 1) - 1;
        }
        if (call == 17 || call == 25) {
            a[1] = (a[1] & 0xff) % horses;
        }
        if (call == 5) {
            a[1] = random.nextInt(100);
        } else if (call == 7 || call == 12 || call == 19) {
            a[0] = random.nextInt(61);
        } else if (call == 9 || call == 14) {
            a[1] = random.nextInt(61);
        } else if (call == 26) {
            a[1] = 1 + random.nextInt(random.nextInt(3) == 0 ? 60 : 20);
            a[2] = random.nextInt(8);
            a[3] = 2 + random.nextInt(19);
        } else if (call == 30) {
            a[1] = random.nextInt();
        } else if (call == 34) {
            a[1] = random.nextInt(8) == 0 ? 0 : 1;
        }
    }

    private void text() {
        StringBuilder text = new StringBuilder();
        for (int i = random.nextInt(7); i >= 0; i--) {
            text.append(statement());
        }
        if (random.nextInt(3) == 0 && text.length() > 0) {
            int i = random.nextInt(text.length());
            int how = random.nextInt(3);
            if (how == 0) {
                text.setCharAt(i, "hrodl;0129/:\377".charAt(random.nextInt(13)));
            } else if (how == 1) {
                text.deleteCharAt(i);
            } else {
                text.setLength(i);
            }
        }
        both(35, 0, 0, text.length());
        for (int i = 0; i < text.length(); i++) {
            both(36, 0, i, text.charAt(i));
        }
        both(0, 0);
    }

    private String statement() {
        int most = random.nextInt(12) == 0 ? 100 : 21;
        String yard = digits(random.nextInt(most));
        switch (random.nextInt(6)) {
            case 0: case 1:
                return "h" + random.nextInt(most == 21 ? 8 : 10) + random.nextInt(10)
                        + digits(random.nextInt(21)) + yard + ";";
            case 2: return "r" + random.nextInt(7) + yard + ";";
            case 3: return "o" + yard + ";";
            case 4: return "d" + digits(random.nextInt(most == 21 ? 61 : 100)) + ";";
            default: return "l" + random.nextInt(7) + digits(random.nextInt(100)) + ";";
        }
    }

    private static String digits(int n) {
        return "" + n / 10 + n % 10;
    }

    /** A row that tells of a ride as it would be, or of longing, with gaps and faults. */
    private void ride() {
        int horses = (int) model.answer(33, new int[] {0});
        if (horses == 0) {
            return;
        }
        int sort = random.nextInt(3);
        int least = sort == 0 ? -128 : sort == 1 ? -32768 : -2147483648;
        int h = random.nextInt(horses);
        int yard = random.nextInt(21);
        boolean sums = random.nextInt(3) == 0;
        int n = random.nextInt(sums ? 5 : 12);
        both(35, 2, sort, n);
        for (int i = 0; i < n; i++) {
            int v = sums ? sumBehind(horses, i) : placeBehind(h, yard, i);
            int roll = random.nextInt(6);
            both(36, 2, i, roll == 0 ? least : roll == 1 && random.nextInt(4) == 0 ? v + 1 : v);
        }
        both(23, 2, h, yard, 0);
        both(23, 2, h, yard, 1);
        both(24, 2, h, yard, 0);
        both(24, 2, h, yard, 1);
        both(29, 2);
        chainOfPairs(horses);
    }

    private void chainOfPairs(int horses) {
        both(35, 3, 2, 6);
        int yard = 0;
        for (int i = 0; i < 3; i++) {
            int h = random.nextInt(horses);
            for (int k = 0; k < horses && i > 0 && random.nextInt(4) > 0; k++) {
                if (model.answer(1, new int[] {k, 3}) == yard) {
                    h = k;
                }
            }
            int next = random.nextInt(horses);
            yard = random.nextInt(5) == 0 ? random.nextInt(22) : (int) model.answer(1, new int[] {next, 3});
            both(36, 3, 2 * i, h);
            both(36, 3, 2 * i + 1, yard);
        }
        both(28, 3);
    }

    private int sumBehind(int horses, int days) {
        int sum = 0;
        for (int h = 0; h < horses; h++) {
            sum += model.answer(9, new int[] {h, days, 0});
        }
        return sum;
    }

    private int placeBehind(int h, int yard, int days) {
        HiredByLonging other = new HiredByLonging();
        other.keep(0, 1, x.horse(h, 0), x.horse(h, 1));
        other.comes(0, x.horse(h, 2), x.horse(h, 3));
        other.longs(0, x.horse(h, 4));
        other.hangs(x.count(1));
        // A ride towards the yard that is only as long as the days: by the homes that a row allows.
        int before = x.horse(h, 3);
        for (int y = before; ; y += Integer.compare(yard, before)) {
            other.row(1, 2, days + 1);
            for (int i = 0; i < days; i++) {
                other.put(1, i, -2147483648);
            }
            other.put(1, days, y);
            if ((other.homes(1, 0, yard, 0) >> x.horse(h, 2) & 1) == 1 || y == yard) {
                return y;
            }
        }
    }

    /** Whatever can be seen is alike. */
    private void look() {
        for (int what = 0; what < 6; what++) {
            both(33, what);
        }
        for (int h = 0; h < 7; h++) {
            for (int what = 0; what < 8; what++) {
                both(1, h, what);
            }
        }
        both(10, 0, 20, 0);
        both(10, 5, 15, 0);
        both(10, 5, 15, 1);
        both(13);
        both(20, 0);
        both(22, -1, random.nextInt(21));
    }

    /** Numbers one behind the other, mixed by shifts alone: the same each time. */
    private static final class Numbers {
        private long state;

        Numbers(long seed) {
            state = seed;
        }

        int nextInt() {
            state ^= state << 13;
            state ^= state >>> 7;
            state ^= state << 17;
            return (int) (state >>> 21);
        }

        int nextInt(int n) {
            return (nextInt() >>> 1) % n;
        }
    }
}
