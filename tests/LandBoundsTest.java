/**
 * Boundary cases of promises 1 and 3 to 9, the land as told, and of the terms that they need (goals,
 * pines, paces, walks), by answers worked out by hand. Arguments: the source's path, the document's.
 */
public final class LandBoundsTest {
    private static Sentences s;

    public static void main(String[] args) {
        s = new Sentences(args);
        noHorses();
        atFirst();
        goals();
        pinesByMiles();
        pinesByFigure();
        halves();
        mostLonging();
        paces();
        walks();
        comes();
        taken();
        longs();
        hangs();
        days();
        rideOfNoDays();
        notBeyond();
        elseWalk();
        movesFirst();
        forAllHorses();
        s.end("LandBoundsTest", 3, 9);
    }

    private static void due(String call, long got, long want) {
        s.due(call, got, want);
    }

    /** One horse, and oats. */
    private static HiredByLonging one(int kind, int figure, int home, int at, int oats) {
        HiredByLonging x = new HiredByLonging();
        x.keep(0, 1, kind, figure);
        x.comes(0, home, at);
        x.hangs(oats);
        return x;
    }

    private static void noHorses() {
        s.says(1, "No HORSES.");
        HiredByLonging x = new HiredByLonging();
        due("count(0)", x.count(0), 0);
        due("count(3)", x.count(3), 0);
        due("count(4)", x.count(4), 0);
        due("count(5)", x.count(5), 0);
        for (int what = 0; what < 8; what++) {
            due("horse(0, " + what + ")", x.horse(0, what), -1);
        }
        due("away()", x.away(), 0);
        due("spread()", x.spread(), -4);
        due("fastest(0)", x.fastest(0), -4);
        due("fastest(60)", x.fastest(60), -4);
        due("hurry(0, 0)", x.hurry(0, 0), -4);
        due("hurry(20, 1)", x.hurry(20, 1), -4);
        due("fees(-1, 0)", x.fees(-1, 0), -4);
        due("chain(0, 20, 0)", x.chain(0, 20, 0), -4);
        due("chain(20, 0, 1)", x.chain(20, 0, 1), -4);
        due("meet(0)", x.meet(0), 0);
        due("meet(1)", x.meet(1), 0);
        due("hang(60, 0)", x.hang(60, 0), 0);
        due("hang(60, 1)", x.hang(60, 1), 0);
        due("mean(0)", x.mean(0), 0);
        due("mean(1)", x.mean(1), 1);
        due("lands(20, 1, 0)", x.lands(20, 1, 0), 0);
        due("lands(20, 1, 1)", x.lands(20, 1, 1), 0);
        due("days(60) of none", x.days(60), 0);
        due("the day then", x.count(2), 60);
    }

    private static void atFirst() {
        s.says(1, "OATS (a YARD; 0 at first).");
        HiredByLonging x = new HiredByLonging();
        due("count(1)", x.count(1), 0);
        due("a foal's goal", one(5, 9, 20, 20, 0).horse(0, 5), 0);
        s.says(1, "DAY (0 .. 999; 0 at first)");
        due("count(2)", x.count(2), 0);
        due("image()", x.image(), 0);
        s.says(1, "SHELVES 0 .. 7 each hold nothing (at first)");
        for (int d = 0; d < 8; d++) {
            due("cost(" + d + ")", x.cost(d), -11);
            due("toss(" + d + ")", x.toss(d), -11);
            due("put(" + d + ", 0, 0)", x.put(d, 0, 0), -11);
        }
        s.says(1, "LONGING (0 .. 99; 0 at first)");
        x.row(0, 0, 0);
        x.keep(1, 1, 0, 0);
        due("the first", x.comes(1, 0, 5), 0);
        due("its longing", x.horse(0, 4), 0);
        x.longs(0, 99);
        x.restore();
        due("another in its place", x.comes(1, 0, 5), 0);
        due("the other's longing", x.horse(0, 4), 0);
        due("a new object beside it", new HiredByLonging().count(0), 0);
    }

    private static void goal(int kind, int home, int at, int want) {
        HiredByLonging x = one(kind, 9, home, at, 13);
        due("kind " + kind + ", home " + home + ", at " + at, x.horse(0, 5), want);
        due("it is AT its goal", x.count(4), at == want ? 1 : 0);
    }

    private static void goals() {
        s.says(3, "TWO the nearer one of HOME and 20 less HOME (alike: HOME)");
        goal(3, 0, 10, 0);
        goal(3, 20, 10, 20);
        goal(3, 0, 9, 0);
        goal(3, 0, 11, 20);
        goal(3, 20, 11, 20);
        goal(3, 20, 9, 0);
        goal(3, 4, 4, 4);
        goal(3, 4, 16, 16);
        goal(3, 10, 0, 10);
        goal(3, 9, 10, 9);
        s.says(3, "MARE the farther one of these two (alike: HOME)");
        goal(6, 0, 10, 0);
        goal(6, 20, 10, 20);
        goal(6, 0, 9, 20);
        goal(6, 0, 11, 0);
        goal(6, 20, 11, 0);
        goal(6, 20, 9, 20);
        goal(6, 4, 4, 16);
        goal(6, 10, 10, 10);
        goal(6, 11, 10, 11);
        s.says(3, "BLIND 20 less HOME");
        goal(2, 0, 0, 20);
        goal(2, 20, 0, 0);
        goal(2, 10, 3, 10);
        s.says(3, "CONTENT where it is");
        goal(1, 20, 0, 0);
        goal(1, 0, 20, 20);
        s.says(3, "others as what they are under");
        goal(7, 0, 20, 20);
        goal(4, 20, 0, 20);
        goal(0, 20, 20, 20);
        s.says(3, "FOAL OATS");
        goal(5, 0, 20, 13);
        goal(5, 0, 13, 13);
    }

    /** What a day adds to one of this home at this yard, with oats in 0. */
    private static void pines(int kind, int figure, int home, int at, int want) {
        HiredByLonging x = one(kind, figure, home, at, 0);
        due("kind " + kind + ", figure " + figure + ", home " + home + ", at " + at, x.days(1), want);
    }

    private static void pinesByMiles() {
        s.says(9, "HORSE 1 and m by 5, cut");
        int[] added = {0, 1, 1, 1, 1, 2, 2, 2, 2, 2, 3, 3, 3, 3, 3, 4, 4, 4, 4, 4, 5};
        for (int m = 0; m <= 20; m++) {
            pines(0, 9, 0, m, added[m]);
            pines(0, 9, 20, 20 - m, added[m]);
            s.says(9, "BLIND twice a HORSE's");
            pines(2, 9, 20, m, 2 * added[m]);
            s.says(9, "CONTENT 0");
            pines(1, 9, 0, m, 0);
            pines(7, 9, 0, m, 0);
            s.says(9, "others as what they are under");
            // Of its two goals the nearer one is 10 miles off at most.
            pines(3, 9, 0, m, added[Math.min(m, 20 - m)]);
            s.says(9, "MARE 1 more than TWO");
            pines(6, 9, 0, m, added[Math.max(m, 20 - m)] + 1);
        }
        pines(6, 0, 10, 10, 0);
        pines(6, 0, 10, 9, 2);
    }

    private static void pinesByFigure() {
        s.says(9, "DROWNED FIGURE more than a HORSE's");
        pines(4, 0, 0, 4, 1);
        pines(4, 1, 0, 4, 2);
        pines(4, 9, 0, 20, 14);
        pines(4, 9, 0, 0, 0);
        s.says(9, "FOAL FIGURE by 2, cut, more than a HORSE's");
        int[] more = {0, 0, 1, 1, 2, 2, 3, 3, 4, 4};
        for (int figure = 0; figure < 10; figure++) {
            pines(5, figure, 20, 4, 1 + more[figure]);
            pines(5, figure, 0, 20, 5 + more[figure]);
            pines(5, figure, 20, 0, 0);
        }
    }

    private static void halves() {
        s.says(9, "each HORSE that is AT its GOAL has half its LONGING, cut");
        HiredByLonging x = one(0, 9, 7, 7, 0);
        int[] halves = {99, 49, 24, 12, 6, 3, 1, 0, 0};
        x.longs(0, 99);
        for (int i = 1; i < halves.length; i++) {
            due("half of " + halves[i - 1], x.days(1), halves[i]);
        }
        x = one(7, 9, 0, 20, 0);
        x.longs(0, 1);
        due("half of 1", x.days(1), 0);
    }

    private static void most(int kind, int at, int from, int want) {
        HiredByLonging x = one(kind, 9, 0, at, 0);
        x.longs(0, from);
        due("kind " + kind + " from " + from, x.days(1), want);
    }

    private static void mostLonging() {
        s.says(9, "each other one PINES more (99 at most)");
        most(0, 1, 97, 98);
        most(0, 1, 98, 99);
        most(0, 1, 99, 99);
        most(0, 20, 93, 98);
        most(0, 20, 94, 99);
        most(0, 20, 95, 99);
        most(4, 20, 84, 98);
        most(4, 20, 85, 99);
        most(4, 20, 86, 99);
        most(2, 0, 88, 98);
        most(2, 0, 89, 99);
        most(2, 0, 90, 99);
        HiredByLonging x = one(0, 9, 0, 20, 0);
        due("60 days", x.days(60), 99);
    }

    private static void pace(int kind, int figure, int longing, int want) {
        HiredByLonging x = one(kind, figure, 0, 5, 0);
        x.longs(0, longing);
        due("kind " + kind + ", figure " + figure + ", longing " + longing, x.horse(0, 6), want);
        due("all pace", x.count(5), want);
    }

    private static void paces() {
        s.says(3, "HORSE 1 plus (LONGING over 4, cut)");
        for (int kind : new int[] {0, 3, 4}) {
            pace(kind, 9, 0, 1);
            pace(kind, 9, 3, 1);
            pace(kind, 9, 4, 2);
            pace(kind, 9, 95, 24);
            pace(kind, 9, 96, 25);
            pace(kind, 9, 99, 25);
        }
        s.says(3, "BLIND 1 plus (LONGING over 2, cut)");
        pace(2, 9, 0, 1);
        pace(2, 9, 1, 1);
        pace(2, 9, 2, 2);
        pace(2, 9, 97, 49);
        pace(2, 9, 98, 50);
        pace(2, 9, 99, 50);
        s.says(3, "FOAL 1 more than a HORSE's");
        pace(5, 9, 0, 2);
        pace(5, 9, 3, 2);
        pace(5, 9, 99, 26);
        s.says(3, "MARE FIGURE by 3, cut, more than TWO");
        int[] more = {0, 0, 0, 1, 1, 1, 2, 2, 2, 3};
        for (int figure = 0; figure < 10; figure++) {
            pace(6, figure, 0, 1 + more[figure]);
            pace(6, figure, 99, 25 + more[figure]);
        }
        s.says(3, "GELDING 1 more than a CONTENT one's");
        pace(1, 9, 0, 2);
        pace(1, 9, 99, 2);
        pace(7, 9, 0, 3);
        pace(7, 9, 99, 3);
    }

    private static void walks() {
        s.says(3, "HORSE 1; CONTENT 2; MARE 2; GELDING 3; others as what they are under.");
        int[] walk = {1, 2, 1, 1, 1, 1, 2, 3};
        for (int kind = 0; kind < 8; kind++) {
            HiredByLonging x = one(kind, 9, 0, 5, 0);
            x.longs(0, 99);
            due("walk of kind " + kind, x.horse(0, 7), walk[kind]);
        }
    }

    private static void comes() {
        s.says(4, "what is taken from a SHELF, stay there");
        HiredByLonging x = new HiredByLonging();
        x.keep(7, 1, 6, 9);
        for (int h = 0; h < 7; h++) {
            due("it comes as " + h, x.comes(7, 20, 20 - h), h);
            due("it is on the shelf still", x.cost(7), 13);
        }
        due("an eighth one", x.comes(7, 20, 0), -2);
        due("it is on the shelf still", x.toss(7), 213);
        for (int h = 0; h < 7; h++) {
            due("where " + h + " is", x.horse(h, 3), 20 - h);
            due("its home", x.horse(h, 2), 20);
        }
    }

    private static void taken() {
        s.says(6, "It is taken to a YARD (LONGING as it is): where it was.");
        HiredByLonging x = one(0, 0, 7, 7, 0);
        x.longs(0, 99);
        due("to the first yard", x.taken(0, 0), 7);
        due("to the last yard", x.taken(0, 20), 0);
        due("to where it is", x.taken(0, 20), 20);
        due("home", x.taken(0, 7), 20);
        due("its longing", x.horse(0, 4), 99);
        due("the day", x.count(2), 0);
    }

    private static void longs() {
        s.says(7, "LONGING becomes v: what it was.");
        HiredByLonging x = one(0, 0, 7, 0, 0);
        due("99", x.longs(0, 99), 0);
        due("99 again", x.longs(0, 99), 99);
        due("0", x.longs(0, 0), 99);
        due("0 again", x.longs(0, 0), 0);
        due("its longing", x.horse(0, 4), 0);
    }

    private static void hangs() {
        s.says(8, "OATS hang in another YARD: where they were.");
        HiredByLonging x = new HiredByLonging();
        due("in the last yard", x.hangs(20), 0);
        due("where they are", x.hangs(20), 20);
        due("in the first yard", x.hangs(0), 20);
        due("there", x.count(1), 0);
    }

    private static void days() {
        s.says(9, "n DAYS (1 .. 60): LONGING of all together.");
        HiredByLonging x = Check.of("h000001;".repeat(7));
        due("one day", x.days(1), 7);
        due("60 days", x.days(60), 7 * 61);
        due("the day", x.count(2), 61);
        due("38 days", x.days(38), 7 * 99);
        due("a day on 99", x.days(1), 7 * 99);
        due("up to day 999", Made.lastDay(x, 0).count(2), 999);
        due("all longing on day 999", x.count(3), 693);
        due("one day more", x.days(1), -3);
    }

    private static HiredByLonging longing(int kind, int home, int at, int longing) {
        HiredByLonging x = one(kind, 0, home, at, 0);
        x.longs(0, longing);
        return x;
    }

    /** How long, in mind and ridden, and the longing behind it. */
    private static void ride(HiredByLonging x, int yard, int days, int longing) {
        String name = "from " + x.horse(0, 3) + " to " + yard + " with longing " + x.horse(0, 4);
        int day = x.count(2);
        due(name + " in mind", x.howLong(0, yard), days);
        due(name, x.rides(0, yard), days);
        due(name + ": there", x.horse(0, 3), yard);
        due(name + ": the day", x.count(2), day + days);
        due(name + ": the longing", x.horse(0, 4), longing);
    }

    private static void rideOfNoDays() {
        s.says(5, "a RIDE to the YARD where it is takes 0 DAYS, and none goes by");
        ride(longing(0, 0, 10, 41), 10, 0, 41);
        ride(longing(0, 10, 10, 41), 10, 0, 41);
        ride(Made.lastDay(longing(0, 0, 0, 41), 0), 0, 0, 0);
    }

    private static void notBeyond() {
        s.says(5, "PACE miles, but neither beyond the YARD nor beyond the GOAL");
        ride(longing(0, 0, 20, 75), 0, 2, 38);
        ride(longing(0, 0, 20, 76), 0, 1, 38);
        ride(longing(0, 0, 20, 99), 0, 1, 49);
        ride(longing(0, 0, 20, 99), 19, 1, 99);
        ride(longing(0, 0, 20, 76), 1, 1, 77);
        // 72 and 1 at 19, a mile off, and half of 73 then.
        ride(longing(0, 20, 0, 72), 20, 2, 36);
        // A mile to its goal, though it walks two: both of a mare's are 10.
        ride(longing(6, 10, 9, 0), 11, 2, 2);
        ride(longing(6, 10, 11, 0), 9, 2, 2);
        ride(longing(6, 10, 9, 99), 11, 2, 51);
        // A day to the goal; from there a mile a day.
        ride(longing(0, 5, 10, 99), 4, 2, 50);
        ride(longing(0, 5, 10, 99), 0, 6, 55);
        ride(longing(0, 1, 20, 99), 0, 2, 50);
        ride(longing(0, 19, 0, 99), 20, 2, 50);
    }

    private static void elseWalk() {
        s.says(5, "if its GOAL is another YARD that way");
        ride(longing(0, 0, 0, 99), 1, 1, 99);
        ride(longing(0, 0, 0, 99), 20, 20, 99);
        // Four days of 1, five each of 2, of 3 and of 4, and one of 5.
        ride(longing(0, 20, 20, 0), 0, 20, 54);
        ride(longing(0, 0, 10, 99), 12, 2, 99);
        s.says(5, "else WALK miles, but not beyond the YARD");
        ride(longing(7, 0, 10, 64), 9, 1, 32);
        ride(longing(7, 0, 10, 64), 7, 1, 32);
        ride(longing(7, 0, 10, 64), 6, 2, 16);
        ride(longing(7, 0, 20, 64), 0, 7, 0);
        ride(longing(1, 0, 0, 64), 20, 10, 0);
        ride(longing(1, 0, 10, 64), 11, 1, 32);
        // A mare's goal turns at the middle: with pace 2 to 11, from where it is 0, then with walks
        // of 2; it pines 4, 4, 5, 5, 5 and 6.
        ride(longing(6, 0, 9, 4), 20, 6, 33);
    }

    private static void movesFirst() {
        s.says(5, "on each DAY of a RIDE it moves first, by LONGING as it is then");
        // Pace 1, 2, 2: a mile, then 2, then the last one; 3 and 1 and 1, and half of 5.
        ride(longing(0, 0, 4, 3), 0, 3, 2);
        ride(longing(0, 0, 1, 1), 0, 1, 0);
        ride(longing(0, 0, 1, 98), 0, 1, 49);
        // Off its goal it pines by where it has come to, not by where it was.
        ride(longing(0, 0, 4, 0), 5, 1, 2);
        ride(longing(0, 0, 5, 0), 4, 1, 1);
    }

    private static void forAllHorses() {
        s.says(5, "and then A DAY goes by for all HORSES");
        HiredByLonging x = Check.of("h000010;h490020;h000000;l299;");
        due("a ride of two days", x.rides(0, 12), 2);
        due("of the one that is ridden", x.horse(0, 4), 6);
        due("of one away", x.horse(1, 4), 28);
        due("of one AT its goal", x.horse(2, 4), 24);
        due("a ride of no days", x.rides(0, 12), 0);
        due("of one away", x.horse(1, 4), 28);
    }
}
