/**
 * Boundary cases of promises 25 to 32, what rows tell, couriers, storms and seeds, by answers worked
 * out by hand. Arguments: the source's path, the document's path.
 */
public final class TellingBoundsTest {
    private static final int ALL_YARDS = 2097151;
    private static final int[] LEAST = {-128, -32768, Made.MIN};
    private static final int ROW = 3;

    private static Sentences s;

    public static void main(String[] args) {
        s = new Sentences(args);
        homesOfNoRow();
        homesByPace();
        homesSkipped();
        homesStay();
        homesOfHundred();
        kinds();
        figures();
        whatIsBounds();
        two();
        stormOdds();
        stormDays();
        stormPaces();
        stormAtGoal();
        stormLines();
        mean();
        forgedRows();
        forgedPairs();
        judged();
        judgedSkipped();
        landsBounds();
        draws();
        landsFromNow();
        s.end("TellingBoundsTest", 25, 32);
    }

    private static void due(String call, long got, long want) {
        s.due(call, got, want);
    }

    private static HiredByLonging of(String text) {
        return Check.of(text);
    }

    private static void homes(HiredByLonging x, int yard, int want, int sort, int... row) {
        Check.list(x, ROW, sort, row);
        String name = "to " + yard + " by a row of " + row.length + " of sort " + sort;
        due(name, x.homes(ROW, 0, yard, 0), want);
        due(name + ", how many", x.homes(ROW, 0, yard, 1), Integer.bitCount(want));
    }

    private static void homesOfNoRow() {
        s.says(25, "YARDS (bits) that could be its HOME; how many.");
        for (int sort = 0; sort < 3; sort++) {
            homes(of("h000010;"), 0, ALL_YARDS, sort);
            homes(of("h000010;"), 10, ALL_YARDS, sort);
            homes(of("h000010;"), 20, ALL_YARDS, sort, 10);
            homes(of("h000010;"), 20, 0, sort, 9);
            homes(of("h000010;"), 20, 0, sort, 11);
            homes(of("h000010;"), 20, 0, sort, 0);
        }
    }

    private static void homesByPace() {
        s.says(25, "HOMES: a ROW tells AT of one, taken on a RIDE to a YARD, as each DAY of it begins, the first now");
        // Pace 2 and walk 1: two miles only towards a home that is two miles off or more.
        HiredByLonging x = of("h000010;l004;");
        homes(x, 0, 511, 2, 10, 8);
        homes(x, 0, ALL_YARDS - 511, 2, 10, 9);
        homes(x, 20, ALL_YARDS - 4095, 2, 10, 12);
        homes(x, 20, 4095, 2, 10, 11);
        homes(x, 20, 0, 2, 10, 13);
        // With pace 21 it is at its home at once, wherever that is, but not beyond the yard.
        x = of("h000020;l080;");
        homes(x, 0, 1, 1, 20, 0);
        homes(x, 0, 2, 1, 20, 1);
        homes(x, 0, 1 << 18, 1, 20, 18);
        homes(x, 0, (1 << 19) + (1 << 20), 1, 20, 19);
        homes(x, 5, 63, 1, 20, 5);
        homes(x, 5, 0, 1, 20, 4);
        due("its home stays", x.horse(0, 2), 0);
        // A foal goes where the oats are, whatever its home is.
        homes(of("h500010;l004;"), 0, ALL_YARDS, 0, 10, 7);
        homes(of("h500010;l004;o20;"), 0, 0, 0, 10, 7);
    }

    private static void homesSkipped() {
        s.says(25, "(the least number of the SORT is skipped; AT the YARD it stays)");
        for (int sort = 0; sort < 3; sort++) {
            int least = LEAST[sort];
            homes(of("h000010;l004;"), 0, ALL_YARDS, sort, least);
            homes(of("h000010;l004;"), 0, 511, sort, least, 8);
            homes(of("h000010;l004;"), 0, ALL_YARDS, sort, 10, least);
            homes(of("h000010;l004;"), 0, 0, sort, least + 1);
            homes(of("h000010;l004;"), 0, 0, sort, 10, -1);
        }
        // What is the least of another sort only is a number like others; 128 is kept as -128.
        homes(of("h000010;"), 0, 0, 1, -128);
        homes(of("h000010;"), 0, 0, 2, -32768);
        homes(of("h000010;"), 0, 0, 2, -128);
        homes(of("h000010;"), 0, ALL_YARDS, 0, 128);
        homes(of("h000010;"), 0, ALL_YARDS, 1, 32768);
        homes(of("h000010;"), 0, ALL_YARDS, 0, 266);
        homes(of("h000010;"), 0, 0, 1, 266);
    }

    private static void homesStay() {
        s.says(25, "AT the YARD it stays");
        HiredByLonging x = of("h000010;l004;");
        homes(x, 10, ALL_YARDS, 0, 10, 10, 10);
        homes(x, 10, 0, 0, 10, 10, 9);
        homes(x, 9, ALL_YARDS, 0, 10, 9, 9, 9);
        homes(x, 9, 0, 0, 10, 9, 8);
        homes(x, 8, 511, 0, 10, 8, 8);
        homes(x, 8, ALL_YARDS - 511, 0, 10, 9, 8);
    }

    private static void homesOfHundred() {
        s.says(25, "0 .. 100 elements");
        int[] row = new int[100];
        row[0] = 10;
        row[1] = 9;
        for (int i = 2; i < 100; i++) {
            row[i] = 8;
        }
        homes(of("h000010;l004;"), 8, ALL_YARDS - 511, 1, row);
        row[99] = 7;
        homes(of("h000010;l004;"), 8, 0, 1, row);
        row[99] = LEAST[1];
        homes(of("h000010;l004;"), 8, ALL_YARDS - 511, 1, row);
        row[0] = 11;
        homes(of("h000010;l004;"), 8, 0, 1, row);
    }

    private static void whatIs(String land, int yard, int kinds, int figures, int... row) {
        HiredByLonging x = of(land);
        Check.list(x, ROW, 2, row);
        due(land + " to " + yard + ", kinds", x.whatIs(ROW, 0, yard, 0), kinds);
        due(land + " to " + yard + ", figures", x.whatIs(ROW, 0, yard, 1), figures);
        due("its kind stays", x.horse(0, 0), land.charAt(1) - '0');
        due("its figure stays", x.horse(0, 1), land.charAt(2) - '0');
    }

    private static void kinds() {
        s.says(26, "WHAT IT IS: the ROW likewise: KINDS (bits) by which it is so");
        // To 0 from 10, home 0, oats in 20: pace 2 of horses, two of one goal, drowned ones, mares.
        whatIs("h000010;l004;o20;", 0, 91, 1023, 10, 8);
        whatIs("h000010;l004;o20;", 0, 128, 0, 10, 7);
        whatIs("h000010;l004;o20;", 0, 36, 0, 10, 9);
        whatIs("h090010;l004;o20;", 0, 64, 0, 10, 5);
        whatIs("h090010;l004;o20;", 0, 27, 1023, 10, 8);
        whatIs("h000010;l004;o20;", 0, 0, 0, 10, 6);
    }

    private static void figures() {
        s.says(26, "FIGURES (bits 0 .. 9)");
        whatIs("h600010;l004;o20;", 0, 91, 7, 10, 8);
        whatIs("h600010;l004;o20;", 0, 128, 56, 10, 7);
        whatIs("h600010;l004;o20;", 0, 0, 448, 10, 6);
        whatIs("h600010;l004;o20;", 0, 0, 512, 10, 5);
        whatIs("h600010;l004;o20;", 0, 0, 0, 10, 4);
        // Drowned ones pine 2 and their figure at 9, so the second day tells it: pace 1 and a
        // quarter of 2 to 11. Of figure 0 horses, blind ones and those of two homes go so, too; a
        // mare turns at 9.
        whatIs("h400010;", 0, 29, 3, 10, 9, 8);
        whatIs("h400010;", 0, 64, 60, 10, 9, 7);
        whatIs("h400010;", 0, 0, 960, 10, 9, 6);
    }

    private static void whatIsBounds() {
        s.says(26, "the ROW likewise");
        whatIs("h000010;", 0, 255, 1023);
        whatIs("h000010;", 10, 255, 1023, 10);
        whatIs("h000010;", 10, 0, 0, 9);
        whatIs("h000010;", 10, 255, 1023, 10, 10, 10, 10);
        whatIs("h000010;", 10, 0, 0, 10, 10, 10, 11);
        whatIs("h000010;", 0, 255, 1023, Made.MIN);
        whatIs("h000010;", 0, 0, 0, Made.MIN + 1);
        whatIs("h000010;", 0, 128, 0, Made.MIN, 7);
    }

    private static void two() {
        s.says(27, "TWO couriers, each with a HORSE of his own, to one YARD: each RIDES now (0) or waits 5 DAYS first (1)");
        // The one is there. The other comes in 4 days: ahead of 5; in 5: not.
        due("4 days behind", of("h100008;h100000;").two(0, 1, 8), -4);
        due("5 days behind", of("h100009;h100000;").two(0, 1, 9), 11);
        due("4 days behind, turned", of("h100008;h100000;").two(1, 0, 8), -4);
        due("5 days behind, turned", of("h100009;h100000;").two(1, 0, 9), 11);
        due("10 days behind", of("h100020;h100000;").two(0, 1, 20), 11);
        s.says(27, "who is there in fewer DAYS has 3, who waits 1 more");
        due("alike, there", of("h100008;h100008;").two(0, 1, 8), 1);
        due("alike, there, turned", of("h100008;h100008;").two(1, 0, 8), 1);
        due("a day behind", of("h100000;h100001;").two(0, 1, 9), -4);
        s.says(27, "the first pair (10 the one's and the other's) by which neither has more by another choice alone; -4.");
        // The one is there in 4 or 7 days, the other in 6 or 11, or in 2 or 6: of each pair one has
        // more by his other choice.
        due("none of the four pairs, on foot", of("h030012;h030000;").two(0, 1, 6), -4);
        due("none of the four pairs", of("h030012;h230000;").two(0, 1, 6), -4);
        due("one and none", of("h000010;h502003;o20;l012;").two(0, 1, 5), 10);
        due("none and one", of("h000010;h502003;o20;l012;").two(1, 0, 5), 1);
    }

    private static void storm(HiredByLonging x, int v, int n, int t, long above, long below) {
        due("pace " + v + " behind " + n + " days, 1 in " + t + ", above", x.storm(0, v, n, t, 0), above);
        due("pace " + v + " behind " + n + " days, 1 in " + t + ", below", x.storm(0, v, n, t, 1), below);
    }

    /** It pines 1 a day; 4 of longing make a pace more. */
    private static HiredByLonging near(int longing) {
        HiredByLonging x = of("h000001;");
        x.longs(0, longing);
        return x;
    }

    private static void stormOdds() {
        s.says(28, "there is a storm with odds 1 in t (2 .. 20)");
        storm(near(3), 2, 1, 2, 1, 2);
        storm(near(3), 2, 1, 3, 2, 3);
        storm(near(3), 2, 1, 19, 18, 19);
        storm(near(3), 2, 1, 20, 19, 20);
    }

    private static void stormDays() {
        s.says(28, "STORM: each of n DAYS (0 .. 7), by itself");
        storm(near(3), 1, 0, 2, 1, 1);
        storm(near(3), 2, 0, 20, 0, 1);
        storm(near(4), 2, 0, 20, 1, 1);
        storm(near(1), 3, 7, 2, 1, 128);
        storm(near(2), 3, 7, 2, 1, 16);
        storm(near(1), 3, 7, 20, 893871739L, 1280000000L);
        storm(near(7), 3, 7, 2, 127, 128);
        storm(near(7), 3, 7, 20, 1279999999L, 1280000000L);
        storm(near(0), 3, 7, 2, 0, 1);
        // All but 1 and 12 of 729: six storms, or five.
        storm(near(2), 2, 6, 3, 716, 729);
    }

    private static void stormPaces() {
        s.says(28, "how likely PACE of one is v (1 .. 60) or more behind these");
        HiredByLonging x = of("h200000;l099;");
        storm(x, 50, 7, 20, 1, 1);
        storm(x, 50, 0, 2, 1, 1);
        storm(x, 51, 7, 20, 0, 1);
        storm(x, 60, 7, 2, 0, 1);
        storm(x, 1, 7, 2, 1, 1);
        due("its longing stays", x.horse(0, 4), 99);
        due("the day stays", x.count(2), 0);
    }

    private static void stormAtGoal() {
        s.says(28, "nothing PINES in it, LONGING stays");
        // At its goal a calm day halves 8; in a storm 8 stays.
        HiredByLonging x = of("h000000;l008;");
        storm(x, 3, 1, 20, 1, 20);
        storm(x, 3, 2, 2, 1, 4);
        storm(x, 3, 7, 2, 1, 128);
        storm(x, 3, 7, 20, 1, 1280000000L);
        storm(x, 2, 1, 20, 1, 1);
        storm(x, 2, 2, 20, 39, 400);
    }

    private static void stormLines() {
        s.says(28, "a fraction in least terms");
        storm(near(2), 2, 3, 2, 1, 2);
        storm(near(3), 2, 2, 2, 3, 4);
        storm(near(2), 2, 2, 4, 9, 16);
        storm(near(2), 2, 3, 4, 27, 32);
        storm(near(2), 2, 3, 20, 3971, 4000);
        storm(near(4), 2, 7, 20, 1, 1);
        storm(near(0), 2, 3, 20, 0, 1);
    }

    private static void mean(String land, long above, long below) {
        HiredByLonging x = land.isEmpty() ? new HiredByLonging() : of(land);
        due("'" + land + "' above", x.mean(0), above);
        due("'" + land + "' below", x.mean(1), below);
    }

    private static void mean() {
        s.says(29, "MEAN LONGING: a fraction in least terms (0 by 1 of none).");
        mean("", 0, 1);
        mean("h000000;", 0, 1);
        mean("h000000;l099;", 99, 1);
        mean("h000000;".repeat(7), 0, 1);
        mean("h000000;".repeat(7) + "l001;", 1, 7);
        mean("h000000;".repeat(7) + "l099;", 99, 7);
        mean("h000000;".repeat(7) + "l007;", 1, 1);
        mean("h000000;".repeat(7) + "l006;l308;", 2, 1);
        mean("h000000;".repeat(6) + "l004;", 2, 3);
        mean("h000000;".repeat(2) + "l099;l198;", 197, 2);
        mean("h000000;".repeat(2) + "l099;l199;", 99, 1);
        HiredByLonging x = Made.full();
        due("seven with 99, above", x.mean(0), 99);
        due("seven with 99, below", x.mean(1), 1);
    }

    private static void forged(HiredByLonging x, int want, int... pairs) {
        for (int sort = 0; sort < 3; sort++) {
            Check.list(x, ROW, sort, pairs);
            due("pairs: " + pairs.length / 2 + " of sort " + sort, x.forged(ROW), want);
        }
    }

    private static void forgedRows() {
        s.says(30, "FORGED: a ROW of pairs, a HORSE and a YARD");
        forged(of("h000000;"), -4);
        forged(new HiredByLonging(), -4);
        forged(new HiredByLonging(), 0, 0, 0);
        HiredByLonging x = of("h000000;h100005;");
        int[] pairs = new int[100];
        for (int i = 0; i < 50; i++) {
            pairs[2 * i + 1] = i % 2 == 0 ? 20 : 0;
        }
        forged(x, -4, pairs);
        pairs[98] = 1;
        forged(x, 49, pairs);
        pairs[98] = 0;
        pairs[99] = 21;
        forged(x, 49, pairs);
        pairs[1] = -1;
        forged(x, 0, pairs);
        due("the day stays", x.count(2), 0);
        due("where it is", x.horse(0, 3), 0);
    }

    private static void forgedPairs() {
        s.says(30, "no such HORSE, YARD, too); -4.");
        HiredByLonging x = of("h000003;h000020;h000005;");
        forged(x, 0, -1, 5);
        forged(x, 0, 3, 5);
        forged(x, -4, 2, 0);
        forged(x, -4, 2, 20);
        forged(x, 0, 2, -1);
        forged(x, 0, 2, 21);
        forged(x, 1, 0, 5, 3, 5);
        forged(x, 1, 0, 5, 2, 21);
        forged(x, 0, 127, 5);
        forged(x, 0, 2, -128);
        s.says(30, "the first pair whose HORSE is not where he is as he comes");
        forged(x, -4, 0, 5, 2, 20, 1, 0);
        forged(x, 1, 0, 6, 2, 20);
        forged(x, 1, 0, 4, 2, 20, 1, 21);
        forged(x, 2, 0, 5, 2, 19, 1, 0);
        forged(x, -4, 1, 1);
        s.says(30, "a HORSE stays in the YARD to which it was ridden");
        forged(x, -4, 0, 5, 2, 5, 0, 9);
        forged(x, 1, 0, 3, 2, 3);
        forged(x, -4, 0, 3, 0, 3, 0, 3);
        forged(x, 3, 0, 20, 1, 5, 2, 3, 0, 4);
        s.says(30, "In mind (DAY no matter)");
        forged(Made.lastDay(of("h000000;"), 0), -4, 0, 20, 0, 0, 0, 20);
    }

    private static void judged(HiredByLonging x, int want, int sort, int... row) {
        Check.list(x, ROW, sort, row);
        due("a row of " + row.length + " of sort " + sort, x.judge(ROW), want);
    }

    private static void judged() {
        s.says(31, "JUDGED: a ROW tells LONGING of all together behind 0, 1, .. DAYS: the first that is not so");
        HiredByLonging x = near(0);
        for (int sort = 0; sort < 3; sort++) {
            judged(x, -4, sort);
            judged(new HiredByLonging(), -4, sort);
            judged(new HiredByLonging(), -4, sort, 0, 0, 0);
            judged(new HiredByLonging(), 2, sort, 0, 0, 1);
            judged(x, 0, sort, 1);
            judged(x, -4, sort, 0);
            int[] row = new int[100];
            for (int i = 0; i < 100; i++) {
                row[i] = i;
            }
            judged(x, -4, sort, row);
            row[99] = 100;
            judged(x, 99, sort, row);
            row[1] = 2;
            judged(x, 1, sort, row);
        }
        judged(near(98), -4, 0, 98, 99, 99, 99);
        judged(near(98), 2, 0, 98, 99, 100);
        judged(Made.full(), -4, 1, 693);
        s.says(31, "In mind (DAY no matter)");
        judged(Made.lastDay(of("h000001;d60;d39;"), 0), -4, 1, 99, 99, 99);
        due("the day stays", x.count(2), 0);
    }

    private static void judgedSkipped() {
        s.says(31, "(skipped likewise); -4.");
        for (int sort = 0; sort < 3; sort++) {
            judged(near(0), -4, sort, LEAST[sort]);
            judged(near(0), -4, sort, LEAST[sort], 1, LEAST[sort], 3);
            judged(near(0), 3, sort, LEAST[sort], 1, LEAST[sort], 4);
            judged(near(0), 0, sort, LEAST[sort] + 1);
        }
        judged(near(0), 0, 1, -128);
        judged(near(0), 0, 2, -128);
        judged(near(0), 0, 2, -32768);
    }

    private static void lands(String land, int n, int z, int longing, int atGoals) {
        HiredByLonging x = of(land);
        due(land + " of " + n + " by " + z + ", longing", x.lands(n, z, 0), longing);
        due(land + " of " + n + " by " + z + ", at goals", x.lands(n, z, 1), atGoals);
        due("once more", x.lands(n, z, 0), longing);
    }

    private static void landsBounds() {
        s.says(32, "LANDS with a seed z: n (1 .. 20), each from now: AT of each, by numbers, a DRAW below 21, then 10 DAYS");
        // By 1 the draws are 17, 4, 12, 1, 13, 20, 15, 6, 0: of home 0 it longs 40, 10, 30, 10, 30,
        // 50, 40, 20 and 0 behind ten days.
        int[] sums = {40, 50, 80, 90, 120, 170, 210, 230, 230};
        for (int n = 1; n <= 9; n++) {
            lands("h000010;", n, 1, sums[n - 1], n < 9 ? 0 : 1);
        }
        lands("h100010;", 20, 1, 0, 20);
        lands("h100010;".repeat(7), 20, 1, 0, 140);
        due("20 of none", new HiredByLonging().lands(20, 1, 1), 0);
    }

    private static void draws() {
        s.says(32, "A DRAW below n: z becomes z times 1103515245 plus 12345 (an int)");
        // By 2147483647 and by -1 the draws are 11, 20, 13, 6, 19; by 0 and by -2147483648 0, 6, 13.
        lands("h000010;", 1, Made.MAX, 30, 0);
        lands("h000010;", 5, Made.MAX, 30 + 50 + 30 + 20 + 40, 0);
        lands("h000010;", 5, -1, 30 + 50 + 30 + 20 + 40, 0);
        lands("h000010;", 1, 0, 0, 1);
        lands("h000010;", 3, 0, 20 + 30, 1);
        s.says(32, "(z without its sign's bit over 65536, cut) modulo n");
        lands("h000010;", 1, Made.MIN, 0, 1);
        lands("h000010;", 3, Made.MIN, 20 + 30, 1);
        lands("h001110;", 1, -1, 0, 1);
        lands("h001110;", 1, Made.MAX, 0, 1);
        // All of twenty draws by these seeds, each ten days of 1 and the miles by 5.
        lands("h000010;", 20, 1, 550, 2);
        lands("h001010;", 20, 1, 350, 0);
        lands("h000010;", 20, Made.MAX, 570, 0);
        lands("h001010;", 20, Made.MAX, 280, 2);
        lands("h000010;", 20, 5, 560, 1);
        lands("h001010;", 20, -77, 310, 1);
        // Two by numbers: the first is at 11, the second at 20.
        lands("h001100;h002000;", 1, -1, 0, 2);
        lands("h002000;h001100;", 1, -1, 40, 0);
    }

    private static void landsFromNow() {
        s.says(32, "LONGING of all together; how many are AT their GOALS together");
        // At 17 by the draw: from 7 by 4 a day; from 90 up to 99.
        lands("h000010;l007;", 1, 1, 47, 0);
        lands("h000010;l090;", 1, 1, 99, 0);
        lands("h001710;l099;", 1, 1, 0, 1);
        lands("h000010;l007;", 2, 1, 47 + 17, 0);
        lands("h500010;o17;", 1, 1, 0, 1);
        HiredByLonging x = Made.lastDay(of("h000010;"), 0);
        x.longs(0, 0);
        due("on day 999", x.lands(1, 1, 0), 40);
        due("the day stays", x.count(2), 999);
        due("where it is", x.horse(0, 3), 10);
    }
}
