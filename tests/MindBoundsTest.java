/**
 * Boundary cases of promises 10 to 24, rides in mind, by answers worked out by hand. Arguments: the
 * source's path, the document's path.
 */
public final class MindBoundsTest {
    private static Sentences s;

    public static void main(String[] args) {
        s = new Sentences(args);
        dayNoMatter();
        howLong();
        behind();
        chainOfNone();
        chainToItself();
        chainOfThree();
        chainRules();
        chainFirst();
        chainFromNow();
        hurry();
        fastest();
        away();
        ripe();
        leastLonging();
        soonest();
        race();
        walkAhead();
        hang();
        meet();
        spread();
        fees();
        s.end("MindBoundsTest", 10, 24);
    }

    private static void due(String call, long got, long want) {
        s.due(call, got, want);
    }

    private static HiredByLonging of(String text) {
        return Check.of(text);
    }

    /** All that rides in mind answer at day 999 is as it was at day 0; and nothing changes by it. */
    private static void dayNoMatter() {
        HiredByLonging early = of("h000010;h490010;h500003;l007;o20;");
        HiredByLonging late = Made.lastDay(of("h000010;h490010;h500003;o20;"), 0);
        late.longs(0, 7);
        late.longs(1, 0);
        late.longs(2, 0);
        for (int promise = 10; promise <= 24; promise++) {
            s.says(promise, "In mind (DAY no matter)");
            long want = asked(early, promise);
            due("at day 999", asked(late, promise), want);
            due("once more", asked(late, promise), want);
        }
        due("the day", late.count(2), 999);
        due("the longing", late.count(3), 7);
        due("the oats", late.count(1), 20);
        due("where they are", late.horse(0, 3) + late.horse(1, 3) + late.horse(2, 3), 23);
    }

    private static long asked(HiredByLonging x, int promise) {
        switch (promise) {
            case 10: return x.howLong(0, 20);
            case 11: return x.behind(1, 60, 0);
            case 12: return x.chain(10, 20, 0);
            case 13: return x.hurry(20, 1);
            case 14: return x.fastest(60);
            case 15: return x.away();
            case 16: return x.ripe(0, 20);
            case 17: return x.leastLonging(0, 0, 2);
            case 18: return x.soonest(1, 0, 1);
            case 19: return x.race(0, 1, 0);
            case 20: return x.walkAhead(0, 5, 30, 0);
            case 21: return x.hang(60, 1);
            case 22: return x.meet(1);
            case 23: return x.spread();
            default: return x.fees(1, 0);
        }
    }

    private static void howLong() {
        s.says(10, "a RIDE to the YARD where it is takes 0 DAYS");
        HiredByLonging x = of("h000000;h702000;h200000;l299;");
        due("where it is", x.howLong(0, 0), 0);
        due("the farthest ride, by walks of a mile", x.howLong(0, 20), 20);
        due("by walks of 3 miles", x.howLong(1, 20), 7);
        due("by a pace of 50", x.howLong(2, 20), 1);
        due("nothing changes", x.count(2) + x.horse(0, 3), 0);
    }

    private static void behind() {
        s.says(11, "n DAYS on (0 .. 60): LONGING, PACE of one.");
        HiredByLonging x = of("h000001;h000020;h000000;l299;");
        due("0 days on", x.behind(0, 0, 0), 0);
        due("0 days on, pace", x.behind(0, 0, 1), 1);
        due("1 day on", x.behind(0, 1, 0), 1);
        due("59 days on", x.behind(0, 59, 0), 59);
        due("59 days on, pace", x.behind(0, 59, 1), 15);
        due("60 days on", x.behind(0, 60, 0), 60);
        due("60 days on, pace", x.behind(0, 60, 1), 16);
        due("99 at most, 19 days on", x.behind(1, 19, 0), 95);
        due("99 at most, 20 days on", x.behind(1, 20, 0), 99);
        due("99 at most, 60 days on", x.behind(1, 60, 0), 99);
        due("halves, 0 days on", x.behind(2, 0, 0), 99);
        due("halves, 6 days on", x.behind(2, 6, 0), 1);
        due("halves, 7 days on", x.behind(2, 7, 0), 0);
    }

    private static void chainOfNone() {
        s.says(12, "CHAIN: DAYS (what 0; -4), the first HORSE (1; -4).");
        HiredByLonging x = new HiredByLonging();
        due("no horses", x.chain(0, 20, 0), -4);
        due("no horses, the first", x.chain(0, 20, 1), -4);
        x = of("h000001;h000019;");
        due("none at the yard", x.chain(0, 20, 0), -4);
        due("none at the yard, the first", x.chain(0, 20, 1), -4);
        due("none at the last yard", x.chain(20, 0, 0), -4);
        due("one at the yard", x.chain(1, 0, 0), 1);
        due("the other one", x.chain(19, 20, 1), 1);
    }

    private static void chainToItself() {
        s.says(12, "-4, from a YARD to itself, too");
        HiredByLonging x = of("h000005;");
        for (int yard = 0; yard <= 20; yard += 5) {
            due("no first one from " + yard, x.chain(yard, yard, 1), -4);
            s.due("no days from " + yard, x.chain(yard, yard, 0), 0);
        }
        due("of no horses", new HiredByLonging().chain(0, 0, 1), -4);
    }

    private static void chainOfThree() {
        s.says(12, "At most 3 HORSES.");
        // Each goes five miles home in a day, and a mile a day beyond.
        String road = "h000500;h001005;h001510;h002015;l099;l199;l299;l399;";
        HiredByLonging x = of(road);
        due("one", x.chain(0, 5, 0), 1);
        due("two", x.chain(0, 10, 0), 2);
        due("three", x.chain(0, 15, 0), 3);
        due("no four: three, and five days on foot", x.chain(0, 20, 0), 8);
        due("three from the second on", x.chain(5, 20, 0), 3);
        due("the first of these", x.chain(5, 20, 1), 1);
    }

    private static void chainRules() {
        s.says(12, "goes on there with another one (each at most once, no waiting)");
        // Waiting a day first it would be there in 3 days together.
        due("no waiting", of("h200000;").chain(0, 15, 0), 4);
        due("waiting first", of("h200000;").soonest(0, 15, 1), 3);
        // The mare is at 1, 3, 6, 10, where her goal turns to 0, and on foot at 12 and 13. Left at 9
        // and taken once more she would go 5 miles on the fifth day.
        HiredByLonging mare = of("h600000;");
        due("each at most once, the first", mare.chain(0, 13, 0), 6);
        due("as long as her ride", mare.howLong(0, 13), 6);
        due("each at most once, the second", of("h000000;h600001;").chain(0, 13, 0), 6);
        due("the first of the two", of("h000000;h600001;").chain(0, 13, 1), 0);
        s.says(12, "RIDES it to any other YARD");
        // The other one is at 0, off the way: a day there, and one from there to 20.
        due("back, to go on faster", of("h000001;h200000;l199;").chain(1, 20, 0), 2);
        due("at the same yard, no change", of("h100000;h200000;l199;").chain(0, 20, 0), 1);
        s.says(12, "CHAIN, FORGED: DAYS go by for all as he rides");
        // The second one pines 1 on the day that he rides to it: with 4 its pace is 2, with 3 it is 1.
        due("it has longed meanwhile", of("h000000;h000501;l103;").chain(0, 3, 0), 2);
        due("it has longed too little", of("h000000;h000501;l102;").chain(0, 3, 0), 3);
    }

    private static void chainFirst() {
        s.says(12, "the first HORSE by the first such (HORSES by numbers, then YARDS by numbers;");
        due("alike", of("h100000;h100000;").chain(0, 4, 1), 0);
        due("the second is faster", of("h000000;h100000;").chain(0, 4, 1), 1);
        // To 1 on foot and 3 miles by the gelding there: two days, as by the content one alone.
        HiredByLonging x = of("h000000;h100000;h700001;");
        due("two horses, as fast as one", x.chain(0, 4, 0), 2);
        due("the first of the two", x.chain(0, 4, 1), 0);
        x = of("h100000;h000000;h700001;");
        due("turned", x.chain(0, 4, 1), 0);
        x = of("h700001;h000000;h100000;");
        due("turned once more", x.chain(0, 4, 1), 1);
    }

    /** From what is now, whatever has been in mind ahead of it. */
    private static void chainFromNow() {
        s.says(12, "CHAIN from a YARD to another one: a courier takes a HORSE that is AT the YARD where he is");
        HiredByLonging x = new HiredByLonging();
        x.keep(0, 1, 0, 0);
        x.comes(0, 0, 10);
        due("one has come", x.chain(10, 0, 0), 6);
        x.taken(0, 3);
        due("it is taken away", x.chain(10, 0, 0), -4);
        due("it is there now", x.chain(3, 0, 0), 3);
        x.longs(0, 8);
        due("it longs", x.chain(3, 0, 0), 1);
        x.hang(60, 0);
        x.lands(20, 1, 0);
        due("others have been in mind", x.chain(3, 0, 0), 1);
        Check.write(x, 0, "r017;o21;");
        due("a text is refused", x.land(0), -2005);
        due("it is where it was", x.chain(3, 0, 0), 1);
        due("it is not where the text had it", x.chain(17, 0, 0), -4);
        x.image();
        x.taken(0, 20);
        x.restore();
        due("it is restored", x.chain(20, 0, 0), -4);
        due("it is where the image has it", x.chain(3, 0, 1), 0);
    }

    private static void hurry() {
        s.says(13, "HURRY: the HORSE that is at a YARD v first, each on its own from now, of several the least; -4; its DAYS");
        due("none", new HiredByLonging().hurry(0, 0), -4);
        due("none, days", new HiredByLonging().hurry(20, 1), -4);
        HiredByLonging x = of("h000010;h100010;h100010;");
        due("alike", x.hurry(0, 0), 1);
        due("alike, days", x.hurry(0, 1), 5);
        due("there already", x.hurry(10, 0), 0);
        due("there already, days", x.hurry(10, 1), 0);
        x = of("h000000;".repeat(6) + "h000001;");
        due("the seventh", x.hurry(20, 0), 6);
        due("the seventh, days", x.hurry(20, 1), 19);
        due("the farthest of one", of("h000000;").hurry(20, 1), 20);
    }

    private static void fastest() {
        s.says(14, "FASTEST: the one with most PACE n DAYS on, of several the least; -4.");
        due("none, 0 days on", new HiredByLonging().fastest(0), -4);
        due("none, 60 days on", new HiredByLonging().fastest(60), -4);
        // The foal pines 1 a day from 36: 95 and pace 25 behind 59 days, 96 and 26 behind 60.
        HiredByLonging x = of("h000020;h500001;l099;l136;");
        due("0 days on", x.fastest(0), 0);
        due("59 days on, alike", x.fastest(59), 0);
        due("60 days on", x.fastest(60), 1);
        due("a pace of 1", of("h000005;").fastest(0), 0);
        due("a pace of 1, at home", of("h000000;").fastest(60), 0);
        due("alike, seven", of("h000005;".repeat(7)).fastest(9), 0);
        due("the seventh", of("h100005;".repeat(6) + "h700005;").fastest(0), 6);
    }

    private static void away() {
        s.says(15, "AWAY: HORSES (bits) not AT their GOALS.");
        due("none", new HiredByLonging().away(), 0);
        due("seven", of("h000020;".repeat(7)).away(), 127);
        due("seven AT home", of("h002020;".repeat(7)).away(), 0);
        due("two in the middle", of("h300010;h600010;h301010;h601010;").away(), 3);
    }

    private static void ripe() {
        s.says(16, "RIPE: behind how many DAYS (0 .. 60), waiting where it is, the PACE of one is v (1 .. 60) or more first; -4.");
        HiredByLonging x = of("h000001;h200000;h200010;l199;");
        due("pace 1 now", x.ripe(0, 1), 0);
        due("pace 2", x.ripe(0, 2), 4);
        due("pace 15, behind 56 days", x.ripe(0, 15), 56);
        due("pace 16, behind 60 days", x.ripe(0, 16), 60);
        due("pace 17, behind 64 days", x.ripe(0, 17), -4);
        due("pace 60, which none has", x.ripe(0, 60), -4);
        due("pace 50 now", x.ripe(1, 50), 0);
        due("pace 51, which none has", x.ripe(1, 51), -4);
        // Twice 3 a day, 10 miles off: 98 is behind 17 days, by 102.
        due("pace 50 then", x.ripe(2, 50), 17);
        due("a content one has 2", of("h100000;").ripe(0, 2), 0);
        due("a content one has no 3", of("h100000;").ripe(0, 3), -4);
        // At its goal it halves, so that only now counts.
        due("at its goal, now", of("h000000;l099;").ripe(0, 25), 0);
        due("at its goal, never", of("h000000;l095;").ripe(0, 25), -4);
    }

    private static void leastLonging() {
        s.says(17, "LEAST LONGING (0 .. 99) of one with which a RIDE to a YARD takes n DAYS (0 .. 20) or less; -4.");
        HiredByLonging x = of("h000020;h200000;h102000;");
        due("1 day, 20 miles", x.leastLonging(0, 0, 1), 76);
        due("20 days", x.leastLonging(0, 0, 20), 0);
        due("0 days", x.leastLonging(0, 0, 0), -4);
        due("0 days, there", x.leastLonging(0, 20, 0), 0);
        due("1 day, blind", x.leastLonging(1, 20, 1), 38);
        due("1 day, by walks", x.leastLonging(2, 20, 1), -4);
        due("9 days, by walks", x.leastLonging(2, 20, 9), -4);
        due("10 days, by walks", x.leastLonging(2, 20, 10), 0);
        x = of("h000000;l050;");
        due("19 days on foot", x.leastLonging(0, 20, 19), -4);
        due("20 days on foot", x.leastLonging(0, 20, 20), 0);
        due("its longing stays", x.horse(0, 4), 50);
    }

    private static void soonest() {
        s.says(18, "SOONEST: waiting w DAYS (0 .. 30) first, then riding: the w with which one is at a YARD soonest (w and the RIDE together), of several the least; these DAYS.");
        HiredByLonging x = of("h000000;h200000;h100000;");
        due("there", x.soonest(0, 0, 0), 0);
        due("there, days", x.soonest(0, 0, 1), 0);
        due("on foot, w", x.soonest(0, 20, 0), 0);
        due("on foot, days", x.soonest(0, 20, 1), 20);
        due("content, days", x.soonest(2, 20, 1), 10);
        // At once it is in 1, 6, 14 and 20; behind one day, of 10, in 6, 15 and 20.
        due("20 miles, days", x.soonest(1, 20, 1), 4);
        due("20 miles, of several the least", x.soonest(1, 20, 0), 0);
        due("15 miles, w", x.soonest(1, 15, 0), 1);
        due("15 miles, days", x.soonest(1, 15, 1), 3);
    }

    private static void race() {
        s.says(19, "RACE of two to a YARD: the one that is there in fewer DAYS, each on its own from now; -4 alike.");
        HiredByLonging x = of("h000010;h100010;h100010;");
        due("alike", x.race(1, 2, 0), -4);
        due("alike, there", x.race(0, 2, 10), -4);
        due("the second", x.race(0, 1, 20), 1);
        due("the second, turned", x.race(1, 0, 20), 1);
        x = of("h100000;".repeat(6) + "h700000;");
        due("the seventh", x.race(0, 6, 20), 6);
        due("one twice", x.race(6, 6, 20), -1);
        due("the one that is there", of("h000020;h200000;l199;").race(0, 1, 20), 0);
    }

    private static void walkAhead() {
        s.says(20, "WALK AHEAD: the YARD (0 .. 20) to which one had better be taken now (LONGING as it is) so that n DAYS on (0 .. 30) a RIDE from there to a YARD is shortest, of several the least; these DAYS.");
        HiredByLonging x = of("h000010;l099;");
        for (int yard = 0; yard <= 20; yard++) {
            due("to " + yard + ", 0 days on", x.walkAhead(0, yard, 0, 0), yard);
            due("to " + yard + ", 30 days on", x.walkAhead(0, yard, 30, 0), yard);
            due("to " + yard + ", days", x.walkAhead(0, yard, 30, 1), 0);
        }
        due("it stays", x.horse(0, 3), 10);
    }

    private static void hang() {
        s.says(21, "HANG: the YARD for the OATS by which all HORSES are n DAYS (0 .. 60) on of most LONGING together, of several the least; that.");
        due("no horses", new HiredByLonging().hang(0, 0), 0);
        due("no horses, longing", new HiredByLonging().hang(60, 1), 0);
        HiredByLonging x = of("h500000;l003;");
        due("0 days on", x.hang(0, 0), 0);
        due("0 days on, longing", x.hang(0, 1), 3);
        due("the last yard, 1 day on", x.hang(1, 0), 20);
        due("the last yard, longing", x.hang(1, 1), 8);
        due("60 days on, of several the least", x.hang(60, 0), 5);
        due("60 days on, longing", x.hang(60, 1), 99);
        x = of("h500020;");
        due("the first yard, 1 day on", x.hang(1, 0), 0);
        due("the first yard, longing", x.hang(1, 1), 5);
        due("the nearest one of 15 miles", of("h500001;").hang(1, 0), 16);
        due("15 miles, longing", of("h500001;").hang(1, 1), 4);
        due("oats do not matter", of("h000020;").hang(5, 0), 0);
        due("oats do not matter, longing", of("h000020;").hang(5, 1), 25);
        due("seven with 99", of("h000001;".repeat(7) + "d60;d60;").hang(60, 1), 693);
    }

    private static void meet() {
        s.says(22, "MEET: the YARD to which all HORSES, each on its own, come in fewest DAYS together, of several the least; these.");
        due("no horses", new HiredByLonging().meet(0), 0);
        due("no horses, days", new HiredByLonging().meet(1), 0);
        due("the last yard", of("h000020;").meet(0), 20);
        due("the first yard", of("h100000;h100000;h100020;").meet(0), 0);
        due("the first yard, days", of("h100000;h100000;h100020;").meet(1), 10);
        due("the last yard of three", of("h100000;h100020;h100020;").meet(0), 20);
        due("of several the least", of("h100000;h100020;").meet(0), 0);
        // With paces 1, 2, 3, 3, 4, 5 and 5 each of the three is at 0 in 7 days.
        due("seven", of("h000020;".repeat(3) + "h100000;".repeat(4)).meet(1), 21);
        due("seven, the yard", of("h000020;".repeat(3) + "h100000;".repeat(4)).meet(0), 0);
    }

    private static void spread() {
        s.says(23, "SPREAD: of all the two (10 the lesser and the other) farthest apart, of several the first; -4.");
        due("none", new HiredByLonging().spread(), -4);
        due("one", of("h000020;").spread(), -4);
        due("two at one yard", of("h000020;h000020;").spread(), 1);
        due("two", of("h000020;h000000;").spread(), 1);
        due("three, the last two", of("h000010;h000000;h000020;").spread(), 12);
        due("three, the first and the last", of("h000000;h000010;h000020;").spread(), 2);
        due("alike, the first", of("h000000;h000020;h000000;h000020;").spread(), 1);
        due("alike, the first, the second with two", of("h000010;h000000;h000020;h000000;").spread(), 12);
        due("seven, the last two", of("h000010;".repeat(5) + "h000020;h000000;").spread(), 56);
        due("seven at one yard", of("h000010;".repeat(7)).spread(), 1);
    }

    private static void fees() {
        s.says(24, "FEES of one for a RIDE to a YARD: its COST (as on a SHELF) for each DAY");
        int[] costs = {2, 1, 11, 4, 7, 1, 13, 4};
        for (int kind = 0; kind < 8; kind++) {
            HiredByLonging x = of("h" + kind + "91010;");
            due("no mile, kind " + kind, x.fees(0, 10), 0);
            due("a mile, kind " + kind, x.fees(0, 11), costs[kind]);
        }
        due("20 days", of("h490000;").fees(0, 20), 140);
        due("10 days", of("h190000;").fees(0, 20), 10);
        s.says(24, "CHEAPEST: the HORSE whose FEES to a YARD are least, of several the least; -4.");
        due("none", new HiredByLonging().fees(-1, 0), -4);
        due("one", of("h490000;").fees(-1, 20), 0);
        due("alike", of("h490000;h100000;h100000;").fees(-1, 20), 1);
        due("who is there has none to pay", of("h100000;h490020;").fees(-1, 20), 1);
        due("the seventh", of("h400000;".repeat(6) + "h100000;").fees(-1, 1), 6);
    }
}
