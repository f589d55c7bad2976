import java.util.function.Supplier;

/**
 * Every number of every call: the last one that is allowed and the first one that is not, on both
 * sides, with a look behind each refused call. Arguments: the source's path, the document's path.
 */
public final class RangesTest {
    private static final long LONG = 1000000001L;
    private static final Supplier<HiredByLonging> EMPTY = Made::empty;
    private static final Supplier<HiredByLonging> SOME = Made::some;
    private static final Supplier<HiredByLonging> FULL = Made::full;

    private static Sentences s;

    public static void main(String[] args) {
        s = new Sentences(args);
        noLand();
        landAsTold();
        takenAndHung();
        ridesInMind();
        chains();
        bests();
        waits();
        homes();
        couriers();
        storms();
        seeds();
        kept();
        rows();
        copies();
        horsesOfAll();
        s.end("RangesTest", 2, 42);
    }

    private static void of(int least, int most, String call, Sentences.Call asked) {
        s.range(SOME, least, most, call, asked, -1);
    }

    private static void yard(String call, Sentences.Call asked) {
        of(0, 20, call, asked);
    }

    private static void either(String call, Sentences.Call asked) {
        of(0, 1, call, asked);
    }

    /** Of none, of three and of seven horses. */
    private static void horse(String call, Sentences.Call asked, long refusal) {
        s.outside(EMPTY, 0, -1, call + ", of none", asked, refusal);
        s.refused(EMPTY, call + " of 0, of none", x -> asked.ask(x, 0), refusal);
        s.range(SOME, 0, 2, call + ", of three", asked, refusal);
        s.range(FULL, 0, 6, call + ", of seven", asked, refusal);
    }

    private static void horse(String call, Sentences.Call asked) {
        horse(call, asked, -1);
    }

    private static void shelf(String call, Sentences.Call asked) {
        of(0, 7, call, asked);
    }

    private static void noLand() {
        s.says(2, "the FAULT. -1, -11, -12 (no ROW of bytes).");
        shelf("land(_)", (x, v) -> x.land(v));
        s.says(3, "PACE (6), WALK (7). -1.");
        of(0, 7, "horse(2, _)", (x, v) -> x.horse(2, v));
        horse("horse(_, 0)", (x, v) -> x.horse(v, 0));
        horse("horse(_, 7)", (x, v) -> x.horse(v, 7));
    }

    private static void landAsTold() {
        s.says(4, "The one on SHELF d comes, with a HOME, AT a YARD: its number. -1, -11, -12 (a ROW), -2.");
        shelf("comes(_, 0, 0)", (x, v) -> x.comes(v, 0, 0));
        yard("comes(1, _, 0)", (x, v) -> x.comes(1, v, 0));
        yard("comes(1, 20, _)", (x, v) -> x.comes(1, 20, v));
        s.says(5, "A RIDE: its DAYS. -1, -3 DAY above 999 then.");
        s.outside(FULL, 0, 6, "rides(_, 0), of seven", (x, v) -> x.rides(v, 0), -1);
        s.outside(EMPTY, 0, -1, "rides(_, 0), of none", (x, v) -> x.rides(v, 0), -1);
        of(0, 2, "rides(_, 9)", (x, v) -> x.rides(v, 9));
        yard("rides(2, _)", (x, v) -> x.rides(2, v));
    }

    private static void takenAndHung() {
        s.says(6, "It is taken to a YARD (LONGING as it is): where it was. -1.");
        horse("taken(_, 3)", (x, v) -> x.taken(v, 3));
        yard("taken(2, _)", (x, v) -> x.taken(2, v));
        s.says(7, "LONGING becomes v: what it was. -1.");
        horse("longs(_, 5)", (x, v) -> x.longs(v, 5));
        of(0, 99, "longs(2, _)", (x, v) -> x.longs(2, v));
        s.says(8, "OATS hang in another YARD: where they were. -1.");
        yard("hangs(_)", (x, v) -> x.hangs(v));
        s.says(9, "n DAYS (1 .. 60): LONGING of all together. -1, -3 DAY above 999.");
        of(1, 60, "days(_)", (x, v) -> x.days(v));
        s.outside(FULL, 1, 60, "days(_) on the last day", (x, v) -> x.days(v), -1);
    }

    private static void ridesInMind() {
        s.says(10, "HOW LONG. -1.");
        horse("howLong(_, 9)", (x, v) -> x.howLong(v, 9));
        yard("howLong(2, _)", (x, v) -> x.howLong(2, v));
        s.says(11, "n DAYS on: LONGING (what 0), PACE (1). -1.");
        horse("behind(_, 5, 0)", (x, v) -> x.behind(v, 5, 0));
        of(0, 60, "behind(2, _, 1)", (x, v) -> x.behind(2, v, 1));
        either("behind(2, 5, _)", (x, v) -> x.behind(2, 5, v));
        s.says(14, "FASTEST; -4. -1.");
        of(0, 60, "fastest(_)", (x, v) -> x.fastest(v));
        s.outside(EMPTY, 0, 60, "fastest(_) of none", (x, v) -> x.fastest(v), -1);
        s.says(16, "RIPE; -4. -1.");
        horse("ripe(_, 1)", (x, v) -> x.ripe(v, 1));
        of(1, 60, "ripe(2, _)", (x, v) -> x.ripe(2, v));
        s.says(17, "LEAST LONGING; -4. -1.");
        horse("leastLonging(_, 9, 20)", (x, v) -> x.leastLonging(v, 9, 20));
        yard("leastLonging(2, _, 20)", (x, v) -> x.leastLonging(2, v, 20));
        of(0, 20, "leastLonging(2, 9, _)", (x, v) -> x.leastLonging(2, 9, v));
        s.says(18, "SOONEST: w (what 0), DAYS (1). -1.");
        horse("soonest(_, 9, 1)", (x, v) -> x.soonest(v, 9, 1));
        yard("soonest(2, _, 1)", (x, v) -> x.soonest(2, v, 1));
        either("soonest(2, 9, _)", (x, v) -> x.soonest(2, 9, v));
    }

    private static void chains() {
        s.says(12, "CHAIN: DAYS (what 0; -4), the first HORSE (1; -4). -1.");
        yard("chain(_, 9, 0)", (x, v) -> x.chain(v, 9, 0));
        yard("chain(10, _, 0)", (x, v) -> x.chain(10, v, 0));
        either("chain(10, 9, _)", (x, v) -> x.chain(10, 9, v));
        either("chain(9, 9, _)", (x, v) -> x.chain(9, 9, v));
        s.outside(SOME, 0, 20, "chain(_, _, 0) to itself", (x, v) -> x.chain(v, v, 0), -1);
        s.outside(EMPTY, 0, 20, "chain(0, _, 1) of none", (x, v) -> x.chain(0, v, 1), -1);
        s.says(13, "HURRY: which (what 0; -4), DAYS (1; -4). -1.");
        yard("hurry(_, 0)", (x, v) -> x.hurry(v, 0));
        either("hurry(9, _)", (x, v) -> x.hurry(9, v));
        s.outside(EMPTY, 0, 20, "hurry(_, 1) of none", (x, v) -> x.hurry(v, 1), -1);
        s.outside(EMPTY, 0, 1, "hurry(9, _) of none", (x, v) -> x.hurry(9, v), -1);
    }

    private static void bests() {
        s.says(20, "WALK AHEAD: the YARD (what 0), DAYS (1). -1.");
        horse("walkAhead(_, 9, 5, 0)", (x, v) -> x.walkAhead(v, 9, 5, 0));
        yard("walkAhead(2, _, 5, 0)", (x, v) -> x.walkAhead(2, v, 5, 0));
        of(0, 30, "walkAhead(2, 9, _, 1)", (x, v) -> x.walkAhead(2, 9, v, 1));
        either("walkAhead(2, 9, 5, _)", (x, v) -> x.walkAhead(2, 9, 5, v));
        s.says(21, "HANG: the YARD (what 0), LONGING (1). -1.");
        of(0, 60, "hang(_, 0)", (x, v) -> x.hang(v, 0));
        either("hang(5, _)", (x, v) -> x.hang(5, v));
        s.outside(EMPTY, 0, 60, "hang(_, 1) of none", (x, v) -> x.hang(v, 1), -1);
        s.says(22, "MEET: the YARD (what 0), DAYS (1). -1.");
        either("meet(_)", (x, v) -> x.meet(v));
        s.outside(EMPTY, 0, 1, "meet(_) of none", (x, v) -> x.meet(v), -1);
        s.says(24, "FEES of one; CHEAPEST (h -1; -4). -1 (h below -1, too).");
        s.range(EMPTY, -1, -1, "fees(_, 9), of none", (x, v) -> x.fees(v, 9), -1);
        of(-1, 2, "fees(_, 9), of three", (x, v) -> x.fees(v, 9));
        s.range(FULL, -1, 6, "fees(_, 9), of seven", (x, v) -> x.fees(v, 9), -1);
        yard("fees(2, _)", (x, v) -> x.fees(2, v));
        yard("fees(-1, _)", (x, v) -> x.fees(-1, v));
        s.outside(EMPTY, 0, 20, "fees(-1, _), of none", (x, v) -> x.fees(-1, v), -1);
    }

    private static void waits() {
        s.says(19, "RACE; -4. -1 (one twice).");
        horse("race(_, 1, 9)", (x, v) -> x.race(v, v == 1 ? 0 : 1, 9));
        horse("race(1, _, 9)", (x, v) -> x.race(v == 1 ? 0 : 1, v, 9));
        yard("race(2, 1, _)", (x, v) -> x.race(2, 1, v));
        twice("race", (x, v) -> x.race(v, v, 9));
        s.says(27, "TWO; -4. -1 (one twice).");
        horse("two(_, 1, 9)", (x, v) -> x.two(v, v == 1 ? 0 : 1, 9));
        horse("two(1, _, 9)", (x, v) -> x.two(v == 1 ? 0 : 1, v, 9));
        yard("two(2, 1, _)", (x, v) -> x.two(2, 1, v));
        twice("two", (x, v) -> x.two(v, v, 9));
    }

    private static void twice(String call, Sentences.Call asked) {
        for (int h = 0; h < 7; h++) {
            int one = h;
            s.refused(FULL, call + " of " + h + " twice", x -> asked.ask(x, one), -1);
        }
    }

    private static void homes() {
        s.says(25, "HOMES by the ROW in SHELF d: bits (what 0), how many (1). -1, -11, -12 (no ROW).");
        shelf("homes(_, 2, 9, 0)", (x, v) -> x.homes(v, 2, 9, 0));
        s.outside(FULL, 0, 6, "homes(2, _, 9, 0)", (x, v) -> x.homes(2, v, 9, 0), -1);
        of(0, 2, "homes(2, _, 9, 0)", (x, v) -> x.homes(2, v, 9, 0));
        yard("homes(2, 2, _, 0)", (x, v) -> x.homes(2, 2, v, 0));
        either("homes(2, 2, 9, _)", (x, v) -> x.homes(2, 2, 9, v));
        s.says(26, "WHAT IT IS by the ROW in SHELF d: KINDS (what 0), FIGURES (1), bits. -1, -11, -12.");
        shelf("whatIs(_, 2, 9, 0)", (x, v) -> x.whatIs(v, 2, 9, 0));
        s.outside(FULL, 0, 6, "whatIs(2, _, 9, 0)", (x, v) -> x.whatIs(2, v, 9, 0), -1);
        of(0, 2, "whatIs(2, _, 9, 0)", (x, v) -> x.whatIs(2, v, 9, 0));
        yard("whatIs(2, 2, _, 0)", (x, v) -> x.whatIs(2, 2, v, 0));
        either("whatIs(2, 2, 9, _)", (x, v) -> x.whatIs(2, 2, 9, v));
    }

    private static void couriers() {
        s.says(30, "FORGED by the ROW in SHELF d; -4. -1, -11, -12, -13 (unwhole).");
        shelf("forged(_)", (x, v) -> x.forged(v));
        s.says(31, "JUDGED by the ROW in SHELF d; -4. -1, -11, -12.");
        shelf("judge(_)", (x, v) -> x.judge(v));
    }

    private static void storms() {
        s.says(28, "STORM; part 0 above, 1 below the line. Refused as told: -1.");
        horse("storm(_, 5, 3, 4, 0)", (x, v) -> x.storm(v, 5, 3, 4, 0), LONG);
        s.range(SOME, 1, 60, "storm(2, _, 3, 4, 0)", (x, v) -> x.storm(2, v, 3, 4, 0), LONG);
        s.range(SOME, 0, 7, "storm(2, 5, _, 4, 1)", (x, v) -> x.storm(2, 5, v, 4, 1), LONG);
        s.range(SOME, 2, 20, "storm(2, 5, 3, _, 1)", (x, v) -> x.storm(2, 5, 3, v, 1), LONG);
        s.range(SOME, 0, 1, "storm(2, 5, 3, 4, _)", (x, v) -> x.storm(2, 5, 3, 4, v), LONG);
        s.says(29, "MEAN LONGING; part likewise. Refused as told: -1.");
        s.range(EMPTY, 0, 1, "mean(_), of none", (x, v) -> x.mean(v), LONG);
        s.range(SOME, 0, 1, "mean(_), of three", (x, v) -> x.mean(v), LONG);
    }

    private static void seeds() {
        s.says(32, "LANDS: LONGING (what 0), AT their GOALS (1). -1.");
        of(1, 20, "lands(_, 7, 0)", (x, v) -> x.lands(v, 7, 0));
        either("lands(3, 7, _)", (x, v) -> x.lands(3, 7, v));
        s.outside(EMPTY, 1, 20, "lands(_, 7, 0), of none", (x, v) -> x.lands(v, 7, 0), -1);
        for (int z : new int[] {Made.MIN, -1, 0, Made.MAX}) {
            s.due("lands(3, " + z + ", 0) is allowed", Made.some().lands(3, z, 0) < 0 ? 0 : 1, 1);
        }
        s.says(33, "THE IMAGE is taken: DAY.");
        s.due("image() of none", Made.empty().image(), 0);
        s.due("image() on the last day", Made.full().image(), 999);
        s.says(34, "THE IMAGE is RESTORED: DAY. -3 there is none.");
        s.refused(EMPTY, "restore()", x -> x.restore(), -3);
        s.says(35, "3 all LONGING, 4 how many are AT their GOALS, 5 all PACE; -1 for others.");
        of(0, 5, "count(_)", (x, v) -> x.count(v));
        s.outside(EMPTY, 0, 5, "count(_), of none", (x, v) -> x.count(v), -1);
    }

    private static void kept() {
        s.says(36, "1 a KIND of HORSE of KIND k with a FIGURE: 0. -1.");
        shelf("keep(_, 0, 0, 0)", (x, v) -> x.keep(v, 0, 0, 0));
        shelf("keep(_, 1, 0, 0)", (x, v) -> x.keep(v, 1, 0, 0));
        either("keep(2, _, 3, 3)", (x, v) -> x.keep(2, v, 3, 3));
        of(0, 7, "keep(2, 1, _, 3)", (x, v) -> x.keep(2, 1, v, 3));
        of(0, 9, "keep(1, 1, 3, _)", (x, v) -> x.keep(1, 1, 3, v));
        s.says(41, "GELDING 3 more than a CONTENT one's. -1, -11, -12 (a ROW).");
        shelf("cost(_)", (x, v) -> x.cost(v));
        s.says(42, "in place of all that (FIGURE, too). -1, -11, -12 (a ROW);");
        shelf("toss(_)", (x, v) -> x.toss(v));
    }

    private static void rows() {
        s.says(37, "SHELF d gets a ROW of a SORT: 0. -1 (n above 100); -14.");
        shelf("row(_, 0, 3)", (x, v) -> x.row(v, 0, 3));
        of(0, 2, "row(2, _, 3)", (x, v) -> x.row(2, v, 3));
        for (int sort = 0; sort < 3; sort++) {
            int one = sort;
            s.due("row of none of sort " + sort, Made.some().row(2, one, 0), 0);
            s.due("row of 100 of sort " + sort, Made.some().row(2, one, 100), 0);
            s.refused(SOME, "row of 101 of sort " + sort, x -> x.row(2, one, 101), -1);
            s.refused(SOME, "row of most of sort " + sort, x -> x.row(1, one, Made.MAX), -1);
            s.refused(SOME, "row below 0 of sort " + sort, x -> x.row(2, one, -1), -14);
            s.refused(SOME, "row far below 0 of sort " + sort, x -> x.row(1, one, Made.MIN), -14);
        }
        s.says(38, "Element i of the ROW becomes v: 0. -1, -11, -12, -13.");
        shelf("put(_, 0, 1)", (x, v) -> x.put(v, 0, 1));
        s.range(SOME, 0, 3, "put(2, _, 1)", (x, v) -> x.put(2, v, 1), -13);
        s.range(SOME, 0, 4, "put(3, _, 1)", (x, v) -> x.put(3, v, 1), -13);
        s.range(SOME, 0, 5, "put(4, _, 1)", (x, v) -> x.put(4, v, 1), -13);
        s.range(FULL, 0, 99, "put(3, _, 1), of 100", (x, v) -> x.put(3, v, 1), -13);
        s.outside(SOME, 0, -1, "put(5, _, 1), of no elements", (x, v) -> x.put(5, v, 1), -13);
        s.refused(SOME, "put(5, 0, 1), of no elements", x -> x.put(5, 0, 1), -13);
        s.says(39, "IllegalArgumentException: no such SHELF; IllegalStateException: no ROW, no such place.");
        long argument = 5000000001L;
        long state = 5000000002L;
        s.range(SOME, 0, 7, "element(_, 0)", (x, v) -> Check.elementOrThrown(x, v, 0), argument);
        s.range(SOME, 0, 3, "element(2, _)", (x, v) -> Check.elementOrThrown(x, 2, v), state);
        s.range(FULL, 0, 99, "element(3, _), of 100", (x, v) -> Check.elementOrThrown(x, 3, v), state);
        s.refused(SOME, "element(5, 0), of no elements", x -> Check.elementOrThrown(x, 5, 0), state);
        s.refused(SOME, "element(0, 0), nothing", x -> Check.elementOrThrown(x, 0, 0), state);
        s.refused(SOME, "element(1, 0), a kind", x -> Check.elementOrThrown(x, 1, 0), state);
        s.refused(SOME, "element(-1, -1)", x -> Check.elementOrThrown(x, -1, -1), argument);
    }

    private static void copies() {
        s.says(40, "-1, -11 (either), -12 (no ROWS of one SORT), -13.");
        shelf("copy(_, 0, 2, 0, 1)", (x, v) -> x.copy(v, 0, 2, 0, 1));
        shelf("copy(2, 0, _, 0, 1)", (x, v) -> x.copy(2, 0, v, 0, 1));
        // Of 4 bytes to 3, one, and of 3 to 4, three.
        s.range(SOME, 0, 3, "copy(2, _, 6, 0, 1)", (x, v) -> x.copy(2, v, 6, 0, 1), -13);
        s.range(SOME, 0, 2, "copy(2, 0, 6, _, 1)", (x, v) -> x.copy(2, 0, 6, v, 1), -13);
        s.range(SOME, 0, 3, "copy(2, 0, 6, 0, _)", (x, v) -> x.copy(2, 0, 6, 0, v), -13);
        s.range(SOME, 0, 3, "copy(6, 0, 2, 0, _)", (x, v) -> x.copy(6, 0, 2, 0, v), -13);
        s.range(SOME, 0, 1, "copy(6, _, 2, 0, 2)", (x, v) -> x.copy(6, v, 2, 0, 2), -13);
        s.range(SOME, 0, 1, "copy(6, 0, 2, _, 3)", (x, v) -> x.copy(6, 0, 2, v, 3), -13);
        s.range(FULL, 0, 100, "copy(3, 0, 3, 0, _)", (x, v) -> x.copy(3, 0, 3, 0, v), -13);
        s.range(FULL, 0, 99, "copy(3, _, 3, 0, 1)", (x, v) -> x.copy(3, v, 3, 0, 1), -13);
        s.range(FULL, 0, 99, "copy(3, 0, 3, _, 1)", (x, v) -> x.copy(3, 0, 3, v, 1), -13);
        s.refused(SOME, "copy(2, 0, 5, 0, 1), to no elements", x -> x.copy(2, 0, 5, 0, 1), -13);
        s.refused(SOME, "copy(5, 0, 2, 0, 1), of no elements", x -> x.copy(5, 0, 2, 0, 1), -13);
        s.refused(FULL, "copy(3, MAX, 3, 0, MAX)", x -> x.copy(3, Made.MAX, 3, 0, Made.MAX), -13);
        s.refused(FULL, "copy(3, MIN, 3, 0, MAX)", x -> x.copy(3, Made.MIN, 3, 0, Made.MAX), -13);
        s.refused(FULL, "copy(3, 0, 3, MAX, MIN)", x -> x.copy(3, 0, 3, Made.MAX, Made.MIN), -13);
    }

    private static void horsesOfAll() {
        s.says(15, "AWAY (bits).");
        s.due("away() of none", Made.empty().away(), 0);
        s.due("away() of one away", Check.of("h000001;").away(), 1);
        s.due("away() of one AT its GOAL", Check.of("h000000;").away(), 0);
        s.due("away() of seven away", Check.of("h000001;".repeat(7)).away(), 127);
        s.due("away() of the seventh", Check.of("h100001;".repeat(6) + "h002000;").away(), 64);
        s.says(23, "SPREAD; -4.");
        s.due("spread() of none", Made.empty().spread(), -4);
        s.due("spread() of one", Check.of("h000005;").spread(), -4);
        s.due("spread() of two alike", Check.of("h000005;h000005;").spread(), 1);
        s.due("spread() of the last two of seven",
                Check.of("h000010;".repeat(5) + "h000000;h000020;").spread(), 56);
    }
}
