import java.util.function.Supplier;
import java.util.function.ToLongFunction;

/**
 * The sentences of the document that name no boundary case, from its first line to its last, by
 * answers worked out by hand. Arguments: the source's path, the document's path.
 */
public final class TermsTest {
    private static final int MOST_CALLS = 512;

    private static Sentences s;

    public static void main(String[] args) {
        s = new Sentences(args);
        road();
        ridesInMind();
        bests();
        told();
        lastCall();
        lastCallOfEach();
        yards();
        horses();
        kinds();
        under();
        goalsAndPines();
        paceAndWalk();
        day();
        ride();
        textOnShelves();
        statements();
        howLong();
        chain();
        forged();
        shelves();
        sizesAndFailures();
        moreAndLess();
        cuts();
        sums();
        refusals();
        refusalsOfLongs();
        howManyStatements();
        ofOne();
        s.end("TermsTest", 2, 5);
    }

    private static void due(String call, long got, long want) {
        s.due(call, got, want);
    }

    private static HiredByLonging of(String text) {
        return Check.of(text);
    }

    /** One horse of this kind and figure, and longing, with oats in 13. */
    private static HiredByLonging one(int kind, int figure, int home, int at, int longing) {
        HiredByLonging x = new HiredByLonging();
        x.keep(5, 1, kind, figure);
        x.comes(5, home, at);
        x.longs(0, longing);
        x.hangs(13);
        return x;
    }

    // ---- what it is

    /** A horse of home 0 at 10 with longing 12, and a foal at 3; oats in 20, day 4. */
    private static HiredByLonging two() {
        return of("h030010;d04;h502003;o20;");
    }

    private static void road() {
        s.says(0, "Hired by how much they want to go home:");
        HiredByLonging x = two();
        due("its pace", x.horse(0, 6), 4);
        due("its pace 9 days on, by longing 39", x.behind(0, 9, 1), 10);
        s.says(0, "yards along a road, horses of kinds with homes and a longing that grows by days away,");
        due("the first one's kind", x.horse(0, 0), 0);
        due("the second one's kind", x.horse(1, 0), 5);
        due("the first one's home", x.horse(0, 2), 0);
        due("longing", x.count(3), 12);
        due("3 more of 10 miles, 4 of 17", x.days(1), 19);
        x.taken(0, 0);
        due("half of 15 at home, 4 more of 17 miles", x.days(1), 7 + 8);
        s.says(0, "oats hung in a town;");
        due("where they hung", x.hangs(7), 20);
        due("where they hang", x.count(1), 7);
        due("a foal's goal", x.horse(1, 5), 7);
        s.says(0, "rides towards where one wishes to go, fast, and walks the other way;");
        x = one(0, 0, 0, 10, 36);
        due("home", x.howLong(0, 0), 1);
        due("as far the other way", x.howLong(0, 20), 10);
    }

    private static void ridesInMind() {
        HiredByLonging x = two();
        s.says(0, "how long a ride takes,");
        due("home", x.howLong(0, 0), 3);
        s.says(0, "the soonest chain of horses,");
        due("to 3, and on by the foal", x.chain(10, 20, 0), 6);
        due("the first one", x.chain(10, 20, 1), 0);
        s.says(0, "where to walk one ahead,");
        due("where it shall be", x.walkAhead(0, 7, 3, 0), 7);
        s.says(0, "who is at home when,");
        due("both away", x.away(), 3);
        x.taken(0, 0);
        due("the foal away", x.away(), 2);
        x.taken(1, 20);
        due("none away", x.away(), 0);
        due("how many are", x.count(4), 2);
        s.says(0, "the fastest, races,");
        x = two();
        due("the fastest now, by 4 to 2", x.fastest(0), 0);
        due("the fastest 9 days on, by 10 to 11", x.fastest(9), 1);
        due("a race to 20", x.race(0, 1, 20), 1);
        due("a race to 0, alike", x.race(0, 1, 0), -4);
    }

    private static void bests() {
        HiredByLonging x = two();
        s.says(0, "where to hang the oats,");
        due("15 miles from the foal", x.hang(5, 0), 18);
        due("12 and 15, and 20", x.hang(5, 1), 47);
        s.says(0, "homes by how fast one went, what kind one is,");
        Check.list(x, 1, 2, 10, 6);
        due("4 miles in a day: a home as far at least", x.homes(1, 0, 0, 0), 127);
        due("how many", x.homes(1, 0, 0, 1), 7);
        due("a horse, one of two homes, a drowned one", x.whatIs(1, 0, 0, 0), 25);
        due("a horse of any figure", x.whatIs(1, 0, 0, 1), 1023);
        s.says(0, "two couriers, storms by odds, fees, the least longing for a ride,");
        due("the first one waits", x.two(0, 1, 5), 10);
        // Two calm days of four at least: all but 1 and 8 of 81.
        due("storms, above", x.storm(0, 5, 4, 3, 0), 8);
        due("storms, below", x.storm(0, 5, 4, 3, 1), 9);
        due("fees of three days", x.fees(0, 0), 6);
        due("the least longing for two days", x.leastLonging(0, 0, 2), 16);
    }

    private static void told() {
        HiredByLonging x = two();
        s.says(0, "a forged chain, told longings looked at, lands by seeds, an image.");
        Check.list(x, 1, 0, 0, 5, 1, 5);
        due("the foal is elsewhere", x.forged(1), 1);
        Check.list(x, 1, 0, 0, 3, 1, 5);
        due("the foal is there", x.forged(1), -4);
        Check.list(x, 1, 0, 12, 19);
        due("longings as they are", x.judge(1), -4);
        Check.list(x, 1, 0, 12, 18);
        due("longings as they are not", x.judge(1), 1);
        // The draws are 17 and 4: ten days of 4 each.
        due("a land by seed 1", x.lands(1, 1, 0), 52 + 40);
        due("an image", x.image(), 4);
        x.days(60);
        due("it is restored", x.restore(), 4);
        due("longing then", x.count(3), 12);
    }

    private static void lastCall() {
        s.says(0, "An object is used for at most 512 calls after it has been made");
        HiredByLonging x = new HiredByLonging();
        x.keep(0, 1, 0, 0);
        x.comes(0, 0, 0);
        for (int call = 3; call < MOST_CALLS; call++) {
            due("call " + call, x.taken(0, call % 21), call == 3 ? 0 : (call - 1) % 21);
        }
        // From 7 twice a mile, then twice 2, and the last one.
        due("the last call", x.howLong(0, 0), 5);
        x = new HiredByLonging();
        for (int call = 1; call < MOST_CALLS - 1; call++) {
            due("a row, call " + call, x.row(call % 8, call % 3, 100), 0);
        }
        due("the last one but one", x.put(510 % 8, 99, 7), 0);
        due("the last call", x.element(510 % 8, 99), 7);
    }

    /** Each call, asked so that it changes nothing, answers up to the last time as at first. */
    private static void lastCallOfEach() {
        int[][] asked = {
            {0}, {6, 5}, {3, 0, 0}, {6, 10}, {6, 10}, {6, 0}, {20}, {61}, {6, 0}, {6, 60, 0}, {10, 20, 0},
            {20, 1}, {60}, {}, {6, 60}, {6, 0, 1}, {6, 20, 1}, {0, 6, 20}, {6, 9, 30, 0}, {60, 1}, {1}, {},
            {-1, 9}, {2, 6, 0, 0}, {2, 6, 0, 1}, {0, 6, 20}, {6, 20, 7, 20, 0}, {0}, {2}, {2}, {20, -1, 0},
            {}, {}, {5}, {3, 1, 6, 9}, {4, 2, 100}, {2, 1, 5}, {2, 1}, {2, 0, 2, 0, 2}, {3}, {3}
        };
        for (int call = 0; call < ModelFace.CALLS.length; call++) {
            String name = ModelFace.CALLS[call];
            HiredByLonging x = of("h090010;h191010;h290410;h390610;h490810;h590010;h691210;o20;");
            x.row(2, 2, 2);
            x.put(2, 1, 5);
            x.keep(3, 1, 6, 9);
            x.image();
            // The text has 60 signs; ModelFace asks for an element twice, whether it throws and what.
            int times = (MOST_CALLS - 66) / (name.equals("element") ? 2 : 1);
            long first = ModelFace.ask(x, call, asked[call]);
            int alike = 1;
            while (alike < times && ModelFace.ask(x, call, asked[call]) == first) {
                alike++;
            }
            due(name + ", times alike", alike, times);
        }
    }

    // ---- part I

    private static void yards() {
        s.says(5, "YARDS 0 .. 20 along a road, a mile apart.");
        HiredByLonging walks = one(0, 0, 0, 0, 0);
        HiredByLonging back = one(0, 0, 20, 20, 0);
        for (int yard = 0; yard <= 20; yard++) {
            due("a mile a day to " + yard, walks.howLong(0, yard), yard);
            due("a mile a day from 20 to " + yard, back.howLong(0, yard), 20 - yard);
        }
        due("no yard ahead of them", walks.howLong(0, -1), -1);
        due("no yard behind them", walks.howLong(0, 21), -1);
    }

    private static void horses() {
        s.says(4, "HORSES 0 .. 6 as they come (7 at most), of KINDS, each with a FIGURE (0 .. 9), a HOME (a YARD), AT (a YARD), LONGING (0 .. 99; 0 at first).");
        HiredByLonging x = new HiredByLonging();
        for (int h = 0; h < 7; h++) {
            x.keep(0, 1, h + 1, 9 - h);
            due("it comes", x.comes(0, 3 * h, 20 - h), h);
        }
        due("one more", x.comes(0, 0, 0), -2);
        for (int h = 0; h < 7; h++) {
            due("kind of " + h, x.horse(h, 0), h + 1);
            due("figure of " + h, x.horse(h, 1), 9 - h);
            due("home of " + h, x.horse(h, 2), 3 * h);
            due("where " + h + " is", x.horse(h, 3), 20 - h);
            due("longing of " + h + " at first", x.longs(h, 99 - h), 0);
            due("longing of " + h, x.horse(h, 4), 99 - h);
        }
        due("no such one", x.horse(7, 0), -1);
    }

    private static void kinds() {
        s.says(3, "KINDS: 0 HORSE; 1 CONTENT under HORSE; 2 BLIND under HORSE; 3 TWO under HORSE; 4 DROWNED under HORSE; 5 FOAL under HORSE; 6 MARE under TWO; 7 GELDING under CONTENT.");
        // Home 4, at 6, longing 23, figure 9: kind, goal, pace, walk; what a day adds.
        int[][] want = {
            {0, 4, 6, 1, 1}, {1, 6, 2, 2, -12}, {2, 16, 12, 1, 6}, {3, 4, 6, 1, 1},
            {4, 4, 6, 1, 10}, {5, 13, 7, 1, 6}, {6, 16, 9, 2, 4}, {7, 6, 3, 3, -12}
        };
        for (int kind = 0; kind < 8; kind++) {
            HiredByLonging x = one(kind, 9, 4, 6, 23);
            due("kind", x.horse(0, 0), want[kind][0]);
            due("goal of kind " + kind, x.horse(0, 5), want[kind][1]);
            due("pace of kind " + kind, x.horse(0, 6), want[kind][2]);
            due("walk of kind " + kind, x.horse(0, 7), want[kind][3]);
            due("a day of kind " + kind, x.days(1), 23 + want[kind][4]);
        }
        due("no kind 8", new HiredByLonging().keep(0, 1, 8, 0), -1);
    }

    /** What the document doesn't tell of a kind is as with the one it is under. */
    private static void under() {
        int[] under = {0, 0, 0, 0, 0, 0, 3, 1};
        s.says(3, "7 GELDING under CONTENT.");
        for (int longing = 0; longing < 100; longing++) {
            alike("pace", 3, under[3], longing, 6);
            alike("pace", 4, under[4], longing, 6);
        }
        for (int kind = 2; kind < 6; kind++) {
            alike("walk", kind, under[kind], 23, 7);
        }
        alike("goal", 4, under[4], 23, 5);
        alike("goal", 7, under[7], 23, 5);
        due("a day of a gelding", one(7, 9, 0, 20, 50).days(1), one(1, 9, 0, 20, 50).days(1));
        due("a day of one of two homes", one(3, 9, 0, 9, 50).days(1), one(0, 9, 0, 9, 50).days(1));
        due("toss of a blind one", toss(2, 8), toss(0, 8));
        due("toss of a drowned one", toss(4, 8), toss(0, 8));
        due("toss of a foal", toss(5, 8), toss(0, 8));
        due("toss of a gelding", toss(7, 8), toss(1, 8));
    }

    private static void alike(String name, int kind, int under, int longing, int what) {
        due(name + " of kind " + kind + " with longing " + longing,
                one(kind, 9, 3, 8, longing).horse(0, what), one(under, 9, 3, 8, longing).horse(0, what));
    }

    private static int toss(int kind, int figure) {
        HiredByLonging x = new HiredByLonging();
        x.keep(0, 1, kind, figure);
        return x.toss(0);
    }

    private static void goalsAndPines() {
        s.says(3, "GOAL: HORSE HOME;");
        for (int home = 0; home <= 20; home++) {
            due("home " + home, one(0, 9, home, 7, 40).horse(0, 5), home);
        }
        s.says(9, "PINES (what a DAY adds to LONGING, m miles from its GOAL):");
        for (int miles = 1; miles <= 20; miles++) {
            due(miles + " miles", one(0, 9, 20, 20 - miles, 40).days(1), 41 + miles / 5);
            due(miles + " miles, two days", one(0, 9, 0, miles, 40).days(2), 42 + miles / 5 * 2);
        }
    }

    /** How long a ride to each yard takes on both sides of where it is, if it goes so far a day. */
    private static void aDay(HiredByLonging x, int way, int miles) {
        for (int m = 1; m <= 3 * miles && m <= 10; m++) {
            due(m + " miles by " + miles, x.howLong(0, 10 + way * m), (m + miles - 1) / miles);
        }
    }

    private static void paceAndWalk() {
        s.says(5, "PACE (miles a DAY towards its GOAL):");
        due("20 miles, a day of 25", one(0, 0, 0, 20, 99).howLong(0, 0), 1);
        due("4 miles", one(0, 0, 0, 20, 12).howLong(0, 16), 1);
        due("5 miles, a day of 4", one(0, 0, 0, 20, 12).howLong(0, 15), 2);
        due("4 miles back", one(0, 0, 20, 0, 12).howLong(0, 4), 1);
        due("5 miles back", one(0, 0, 20, 0, 12).howLong(0, 5), 2);
        s.says(3, "PACE (miles a DAY towards its GOAL): HORSE 1 plus (LONGING over 4, cut); CONTENT 2;");
        for (int longing = 0; longing < 100; longing++) {
            due("of a horse by " + longing, one(0, 9, 0, 9, longing).horse(0, 6), 1 + longing / 4);
            due("of a content one by " + longing, one(1, 9, 0, 9, longing).horse(0, 6), 2);
        }
        s.says(5, "WALK (miles a DAY any other way):");
        aDay(one(0, 0, 0, 10, 99), 1, 1);
        aDay(one(0, 0, 20, 10, 99), -1, 1);
        aDay(one(1, 0, 0, 10, 99), 1, 2);
        aDay(one(1, 0, 0, 10, 99), -1, 2);
        aDay(one(7, 0, 0, 10, 99), 1, 3);
        aDay(one(7, 0, 0, 10, 99), -1, 3);
        // From its goal each way is another one.
        aDay(one(0, 0, 10, 10, 99), 1, 1);
        aDay(one(0, 0, 10, 10, 99), -1, 1);
        aDay(one(6, 0, 10, 10, 99), 1, 2);
    }

    private static void day() {
        s.says(9, "A DAY: DAY is 1 more;");
        HiredByLonging x = one(0, 0, 0, 10, 0);
        x.days(1);
        due("one day", x.count(2), 1);
        x.days(60);
        due("60 days", x.count(2), 61);
        due("a ride of three days", x.rides(0, 13), 3);
        due("the day then", x.count(2), 64);
        due("of no horses", of("d09;").count(2), 9);
    }

    private static void ride() {
        s.says(5, "A RIDE of one to a YARD: till it is there, each DAY it goes: if its GOAL is another YARD that way, PACE miles, but neither beyond the YARD nor beyond the GOAL, else WALK miles, but not beyond the YARD; then A DAY goes by.");
        // 1, 1, 2, 2 and 2 miles, by longing 2, 4, 6, 7 and 8, and 3 to the goal: half of 8 then.
        HiredByLonging x = one(0, 0, 0, 10, 0);
        due("home", x.rides(0, 0), 6);
        due("the longing", x.horse(0, 4), 4);
        due("where it is", x.horse(0, 3), 0);
        // 6 miles to its goal, though its pace is 10, and half of 36; then a mile, and 1 more, twice.
        x = one(0, 0, 4, 10, 36);
        due("beyond its goal", x.rides(0, 2), 3);
        due("the longing", x.horse(0, 4), 20);
        // A foal: twice 5 miles and the last one to the oats, half of 15 then, and on foot from there.
        x = one(5, 0, 0, 2, 12);
        due("beyond the oats", x.rides(0, 15), 5);
        due("the longing", x.horse(0, 4), 9);
    }

    // ---- the text

    private static void textOnShelves() {
        s.says(2, "THE TEXT of a LAND stands in a ROW of bytes on a SHELF:");
        for (int d = 0; d < 8; d++) {
            HiredByLonging x = new HiredByLonging();
            Check.write(x, d, "h361204;");
            due("the text on " + d, x.land(d), 1);
            due("what came", x.horse(0, 0) * 10 + x.horse(0, 1), 36);
            due("shelf " + (7 - d) + " if it is another one", x.land(7 - d), d * 2 == 7 ? 1 : -11);
        }
        HiredByLonging x = new HiredByLonging();
        Check.list(x, 0, 1, 'o', '0', '5', ';');
        due("a row of shorts", x.land(0), -12);
        Check.list(x, 0, 2, 'o', '0', '5', ';');
        due("a row of ints", x.land(0), -12);
    }

    private static void statements() {
        s.says(2, "\"h\" KIND, FIGURE (a digit each), HOME, AT (2 digits each): a HORSE more; \"r\" a HORSE (a digit), a YARD (2 digits): a RIDE; \"o\" OATS (2 digits); \"d\" DAYS (2 digits, 1 .. 60): they go by; \"l\" a HORSE (a digit), LONGING (2 digits).");
        HiredByLonging x = of("h030010;h490820;");
        due("horses", x.count(0), 2);
        due("the second one's kind", x.horse(1, 0), 4);
        due("its figure", x.horse(1, 1), 9);
        due("its home", x.horse(1, 2), 8);
        due("where it is", x.horse(1, 3), 20);
        due("a ride", Check.land(x, "r012;"), 1);
        due("where the first one is", x.horse(0, 3), 12);
        due("two days", x.count(2), 2);
        due("its longing", x.horse(0, 4), 6);
        due("the second one's", x.horse(1, 4), 24);
        due("oats", Check.land(x, "o17;"), 1);
        due("where they are", x.count(1), 17);
        due("days", Check.land(x, "d03;"), 1);
        due("the day then", x.count(2), 5);
        due("longing then", x.count(3), 6 + 9 + 24 + 36);
        due("longing", Check.land(x, "l190;"), 1);
        due("the second one's", x.horse(1, 4), 90);
        due("the first one's stays", x.horse(0, 4), 15);
    }

    // ---- parts II and III

    private static void howLong() {
        s.says(10, "HOW LONG a RIDE of one to a YARD takes from now (DAYS).");
        HiredByLonging x = one(0, 0, 0, 10, 0);
        due("now", x.howLong(0, 0), 6);
        due("the other way", x.howLong(0, 15), 5);
        x.days(4);
        due("with longing 12", x.howLong(0, 0), 3);
        x.taken(0, 3);
        due("from 3", x.howLong(0, 0), 1);
    }

    private static void chain() {
        s.says(12, "the fewest DAYS; -4;");
        HiredByLonging x = two();
        // Two days to 3, where the foal longs 8 then: 4, 4 and 5 miles, and the last 4.
        due("by both", x.chain(10, 20, 0), 6);
        due("by the one alone", x.howLong(0, 20), 10);
        due("by the foal alone", x.chain(3, 20, 0), 6);
        due("no horse there", x.chain(11, 20, 0), -4);
        x.taken(1, 12);
        // Two days on foot to 12, where the foal longs 4 then: twice 3 miles, and the last 2.
        due("with the foal at 12", x.chain(10, 20, 0), 5);
    }

    private static void forged() {
        s.says(30, "FORGED: a ROW of pairs, a HORSE and a YARD: a chain by one courier from where the first HORSE is: the first pair whose HORSE is not where he is as he comes (DAYS go by as they ride;");
        HiredByLonging x = of("h000003;h000020;h000005;");
        for (int h = 0; h < 3; h++) {
            Check.list(x, 1, 0, h, 11);
            due("from where " + h + " is", x.forged(1), -4);
            Check.list(x, 1, 0, h, 11, (h + 1) % 3, 4);
            due("the second one is not at 11", x.forged(1), 1);
            Check.list(x, 1, 0, h, x.horse((h + 1) % 3, 3), (h + 1) % 3, 4);
            due("the second one is there", x.forged(1), -4);
        }
        due("no day goes by now", x.count(2), 0);
        due("none longs more now", x.count(3), 0);
    }

    private static void shelves() {
        s.says(36, "SHELVES 0 .. 7 each hold nothing (at first), a KIND of HORSE, a ROW.");
        HiredByLonging x = new HiredByLonging();
        for (int d = 0; d < 8; d++) {
            due("nothing on " + d, x.cost(d), -11);
            due("no row on " + d, x.put(d, 0, 0), -11);
            due("a kind", x.keep(d, 1, 4, 2), 0);
            due("it is there", x.cost(d), 7);
            due("no row", x.put(d, 0, 0), -12);
            due("a row", x.row(d, 0, 1), 0);
            due("it is there", x.put(d, 0, 9), 0);
            due("no kind", x.cost(d), -12);
        }
        due("no shelf 8", x.row(8, 0, 1), -1);
        due("no shelf -1", x.keep(-1, 1, 0, 0), -1);
    }

    private static void sizesAndFailures() {
        s.says(37, "-14 a size below 0;");
        for (int sort = 0; sort < 3; sort++) {
            int one = sort;
            s.refused(Made::some, "a row of -1", x -> x.row(2, one, -1), -14);
        }
        s.says(42, "-15 a FAILURE that is none.");
        s.refused(Made::some, "of a content one", x -> x.toss(7), -15);
        due("of a drowned one", Made.some().toss(1), 6);
    }

    // ---- said once more

    private static void moreAndLess() {
        s.says(42, "Said once more: of a KIND (or SORT) \"n more\", \"n less\" without more words is: than what the one it is under has;");
        for (int figure = 1; figure < 10; figure++) {
            due("of TWO 100 more, figure " + figure, toss(3, figure), toss(0, figure) + 100);
        }
    }

    private static void cuts() {
        s.says(3, "\"a by b, cut\" is a divided by b, toward 0;");
        int[] byTwo = {0, 0, 1, 1, 2, 2, 3, 3, 4, 4};
        int[] byThree = {0, 0, 0, 1, 1, 1, 2, 2, 2, 3};
        for (int figure = 0; figure < 10; figure++) {
            due("by 2, figure " + figure, one(5, figure, 0, 12, 0).days(1), 1 + byTwo[figure]);
            due("by 3, figure " + figure, one(6, figure, 0, 12, 0).horse(0, 6), 1 + byThree[figure]);
        }
        due("4 by 5", one(0, 0, 0, 4, 0).days(1), 1);
        due("5 by 5", one(0, 0, 0, 5, 0).days(1), 2);
        due("9 by 5", one(0, 0, 0, 9, 0).days(1), 2);
    }

    private static void sums() {
        s.says(9, "\"a and b\" of two numbers is their sum;");
        due("1 and 0", one(0, 0, 0, 3, 0).days(1), 1);
        due("1 and 3", one(0, 0, 0, 17, 0).days(1), 4);
        due("1 and 4", one(0, 0, 0, 20, 0).days(1), 5);
    }

    private static void no(Supplier<HiredByLonging> made, String call, ToLongFunction<HiredByLonging> ask,
            long want) {
        s.refused(made, call, ask, want);
    }

    private static void refusals() {
        s.says(3, "REFUSALS (answers; nothing changes): -1 no such one, one twice, a number out of its range; -2 there is no room; -3 it is not as it must be; -4 none.");
        no(Made::some, "no such one", x -> x.rides(3, 0), -1);
        no(Made::some, "one twice", x -> x.race(1, 1, 0), -1);
        no(Made::some, "a number out of its range", x -> x.longs(0, 100), -1);
        no(Made::full, "no room", x -> x.comes(0, 0, 0), -2);
        no(Made::full, "not as it must be", x -> x.days(1), -3);
        no(Made::empty, "none", x -> x.hurry(0, 0), -4);
        no(Made::empty, "no two", x -> x.spread(), -4);
        no(Made::some, "nowhere so fast", x -> x.leastLonging(0, 20, 0), -4);
    }

    private static void refusalsOfLongs() {
        s.says(28, "Of longs they are 1000000000 less them (-1 is told as 1000000001).");
        no(Made::some, "no such one", x -> x.storm(3, 1, 1, 2, 0), 1000000001L);
        no(Made::some, "a number out of its range", x -> x.storm(0, 1, 1, 2, 2), 1000000001L);
        no(Made::some, "no such part", x -> x.mean(2), 1000000001L);
        no(Made::empty, "no such part of none", x -> x.mean(-1), 1000000001L);
    }

    // ---- promises 2 and 3

    private static void howManyStatements() {
        s.says(2, "The text in SHELF d: how many STATEMENTS; the FAULT.");
        for (int n = 1; n <= 25; n++) {
            due(n + " statements", Check.land(new HiredByLonging(), "d01;".repeat(n)), n);
        }
        due("one of each", Check.land(new HiredByLonging(), "h000010;l050;r000;o05;d60;"), 5);
        due("a fault of bytes", Check.land(new HiredByLonging(), "d01;d0"), -1006);
        due("a fault of statements", Check.land(new HiredByLonging(), "d01;d00;"), -2004);
    }

    private static void ofOne() {
        s.says(3, "Of one: KIND (what 0), FIGURE (1), HOME (2), AT (3), LONGING (4), GOAL (5), PACE (6), WALK (7). -1.");
        HiredByLonging x = one(6, 9, 4, 11, 23);
        // 4 is 7 miles off, 16 only 5; 1 and 5 and 3 miles.
        int[] want = {6, 9, 4, 11, 23, 4, 9, 2};
        for (int what = 0; what < 8; what++) {
            due("what " + what, x.horse(0, what), want[what]);
        }
        due("what 8", x.horse(0, 8), -1);
        due("what -1", x.horse(0, -1), -1);
    }
}
