/** Each promise by answers worked out by hand from the document; p1 is promise 1, and so on. */
public final class PromisesTest {
    private static final int MIN = -2147483648;
    private static final int MAX = 2147483647;
    private static final Check CHECK = new Check();

    private static void due(String call, long got, long want) {
        CHECK.due(call, got, want);
    }

    /** A call on a land of its own, for what changes it. */
    private static HiredByLonging of(String text) {
        return Check.of(text);
    }

    /** A land with one horse: 0 at 10, longing 0, oats in 17. */
    private static HiredByLonging one(int kind, int figure, int home) {
        return of("h" + kind + figure + home / 10 + home % 10 + "10;o17;");
    }

    public static void main(String[] args) {
        p1();
        p2Comes();
        p2Lacks();
        p2Faults();
        p2Refused();
        p3();
        p4();
        p5();
        p6To8();
        p9();
        p10And11();
        p12();
        p13To15();
        p16And17();
        p18To20();
        p21To24();
        p25();
        p26();
        p27();
        p28And29();
        p30();
        p31();
        p32();
        p33And34();
        p35();
        p36To38();
        p39();
        p40();
        p41And42();
        CHECK.end("PromisesTest");
    }

    private static void p1() {
        HiredByLonging x = new HiredByLonging();
        for (int what = 0; what < 6; what++) {
            due("p1 count " + what, x.count(what), 0);
        }
        due("p1 horse", x.horse(0, 0), -1);
        due("p1 restore", x.restore(), -3);
        for (int d = 0; d < 8; d++) {
            due("p1 cost " + d, x.cost(d), -11);
        }
        due("p1 another object", new HiredByLonging().comes(0, 0, 0), -11);
    }

    private static void p2Comes() {
        HiredByLonging x = new HiredByLonging();
        due("p2 all statements", Check.land(x, "h030510;o17;l050;d02;r000;"), 5);
        // 50 and two days of 2; then pace 14 to its goal, and half; then five walks, 1 1 1 1 2 more.
        due("p2 horses", x.count(0), 1);
        due("p2 oats", x.count(1), 17);
        due("p2 day", x.count(2), 8);
        due("p2 at", x.horse(0, 3), 0);
        due("p2 longing", x.horse(0, 4), 33);
        due("p2 a horse more", Check.land(x, "h190807;"), 1);
        due("p2 horses then", x.count(0), 2);
        due("p2 kind", x.horse(1, 0), 1);
        due("p2 figure", x.horse(1, 1), 9);
        due("p2 home", x.horse(1, 2), 8);
        due("p2 at", x.horse(1, 3), 7);
        due("p2 a ride of no days", Check.land(x, "r000;"), 1);
        due("p2 the row stays", x.element(0, 0), 'r');
        x.put(0, 0, 256 + 'r');
        due("p2 lowest bits", x.land(0), 1);
        due("p2 room for 7", Check.land(x, "h000000;h000000;h000000;h000000;h000000;"), 5);
        String most = "h000000;".repeat(7) + "d60;".repeat(11);
        due("p2 a hundred bytes", Check.land(new HiredByLonging(), most), 18);
        due("p2 a hundred bytes, and one lacks", Check.land(new HiredByLonging(),
                most.substring(0, 96) + "l050"), -1100);
        due("p2 a hundred bytes, and digits lack", Check.land(new HiredByLonging(),
                most.substring(0, 96) + "h030"), -1100);
        due("p2 999 days", Check.land(new HiredByLonging(),
                "h000000;" + "d60;".repeat(16) + "d39;r000;"), 19);
    }

    private static void lack(String text, int place) {
        due("p2 lack in '" + text + "'", Check.land(new HiredByLonging(), text), -1000 - place);
    }

    private static void p2Lacks() {
        lack("", 0);
        lack("x", 0);
        lack(";", 0);
        lack("H000000;", 0);
        lack("h", 1);
        lack("h03", 3);
        lack("h030510", 7);
        lack("h03051;", 6);
        lack("h0305100;", 7);
        lack("h030510;;", 8);
        lack("h030510; ", 8);
        lack("r0", 2);
        lack("r005", 4);
        lack("r0055;", 4);
        lack("o1;", 2);
        lack("o", 1);
        lack("o1", 2);
        lack("o017;", 3);
        lack("d1x;", 2);
        lack("d/0;", 1);
        lack("d:0;", 1);
        lack("d-1;", 1);
        lack("l05;", 3);
        lack("l0500;", 4);
        lack("d01;o05;q", 8);
        // Kind 1 is told ahead of kind 2, wherever it stands.
        lack("h900000;x", 8);
        lack("o99;d00;r000;o", 14);
    }

    private static void fault(String text, int place) {
        HiredByLonging x = of("h000000;o03;");
        due("p2 fault in '" + text + "'", Check.land(x, text), -2000 - place);
        due("p2 no horse came of '" + text + "'", x.count(0), 1);
        due("p2 no oats of '" + text + "'", x.count(1), 3);
        due("p2 no day of '" + text + "'", x.count(2), 0);
    }

    private static void p2Faults() {
        fault("h800000;", 0);
        fault("h002100;", 0);
        fault("h000021;", 0);
        fault("o05;h700000;h000000;o21;", 20);
        fault("r100;", 0);
        fault("h000000;r121;", 8);
        fault("r021;", 0);
        fault("l100;", 0);
        fault("h000000;l150;l250;", 13);
        fault("o21;", 0);
        fault("o99;", 0);
        fault("d00;", 0);
        fault("d61;", 0);
        fault("h000000;".repeat(7), 48);
        fault("d60;".repeat(16) + "d40;", 64);
        fault("d60;".repeat(16) + "d39;r005;", 68);
        fault("d01;r100;d00;", 4);
    }

    private static void p2Refused() {
        HiredByLonging x = new HiredByLonging();
        due("p2 -1", x.land(-1), -1);
        due("p2 -1", x.land(8), -1);
        due("p2 -1", x.land(MIN), -1);
        due("p2 -11", x.land(7), -11);
        x.keep(7, 1, 0, 0);
        due("p2 -12 of a kind", x.land(7), -12);
        x.row(7, 1, 4);
        due("p2 -12 of shorts", x.land(7), -12);
        x.row(7, 2, 4);
        due("p2 -12 of ints", x.land(7), -12);
    }

    private static void isAll(int kind, int figure, int at, int goal, int pace, int walk) {
        HiredByLonging x = one(kind, figure, 4);
        x.taken(0, at);
        x.longs(0, 23);
        String name = "p3 of kind " + kind + " figure " + figure + " at " + at + ": ";
        int[] want = {kind, figure, 4, at, 23, goal, pace, walk};
        for (int what = 0; what < 8; what++) {
            due(name + what, x.horse(0, what), want[what]);
        }
    }

    private static void p3() {
        isAll(0, 9, 10, 4, 6, 1);
        isAll(1, 9, 10, 10, 2, 2);
        isAll(2, 9, 10, 16, 12, 1);
        isAll(3, 9, 10, 4, 6, 1);
        isAll(3, 9, 11, 16, 6, 1);
        isAll(3, 9, 9, 4, 6, 1);
        isAll(4, 9, 10, 4, 6, 1);
        isAll(5, 9, 10, 17, 7, 1);
        isAll(6, 9, 10, 4, 9, 2);
        isAll(6, 8, 11, 4, 8, 2);
        isAll(6, 2, 9, 16, 6, 2);
        isAll(7, 9, 10, 10, 3, 3);
        HiredByLonging x = one(0, 0, 0);
        due("p3 -1 no such", x.horse(1, 0), -1);
        due("p3 -1 no such", x.horse(-1, 0), -1);
        due("p3 -1 what", x.horse(0, 8), -1);
        due("p3 -1 what", x.horse(0, -1), -1);
        due("p3 -1 far", x.horse(MAX, MIN), -1);
    }

    private static void p4() {
        HiredByLonging x = new HiredByLonging();
        due("p4 -1 shelf", x.comes(8, 0, 0), -1);
        due("p4 -1 home ahead of -11", x.comes(0, 21, 0), -1);
        due("p4 -1 at ahead of -11", x.comes(0, 0, -1), -1);
        due("p4 -11", x.comes(0, 0, 0), -11);
        x.row(0, 0, 2);
        due("p4 -12", x.comes(0, 0, 0), -12);
        x.keep(0, 1, 6, 7);
        for (int h = 0; h < 7; h++) {
            due("p4 number", x.comes(0, 20, h), h);
        }
        due("p4 -2", x.comes(0, 0, 0), -2);
        due("p4 -1 ahead of -2", x.comes(0, 0, 21), -1);
        x.row(0, 2, 1);
        due("p4 -12 ahead of -2", x.comes(0, 0, 0), -12);
        int[] want = {6, 7, 20, 3, 0};
        for (int what = 0; what < 5; what++) {
            due("p4 what came " + what, x.horse(3, what), want[what]);
        }
    }

    private static void p5() {
        HiredByLonging x = one(0, 3, 0);
        due("p5 towards its goal", x.rides(0, 0), 6);
        due("p5 at", x.horse(0, 3), 0);
        due("p5 half behind the last day", x.horse(0, 4), 4);
        due("p5 day", x.count(2), 6);
        due("p5 where it is", x.rides(0, 0), 0);
        due("p5 no day", x.count(2), 6);
        x = one(0, 3, 5);
        x.longs(0, 99);
        due("p5 not beyond its goal at once", x.rides(0, 0), 6);
        due("p5 longing", x.horse(0, 4), 55);
        x = one(0, 3, 0);
        x.longs(0, 99);
        due("p5 not beyond the yard", x.rides(0, 9), 1);
        due("p5 at the yard", x.horse(0, 3), 9);
        x = one(7, 3, 0);
        due("p5 walks of 3", x.rides(0, 0), 4);
        x = of("h000010;h410010;");
        due("p5 the others pine, too", x.rides(0, 8), 2);
        due("p5 the other", x.horse(1, 4), 8);
        p5Refused();
    }

    private static void p5Refused() {
        HiredByLonging x = one(0, 3, 0);
        due("p5 -1 horse", x.rides(1, 0), -1);
        due("p5 -1 yard", x.rides(0, 21), -1);
        due("p5 -1 yard", x.rides(0, -1), -1);
        for (int i = 0; i < 16; i++) {
            x.days(60);
        }
        x.days(38);
        due("p5 -1 ahead of -3", x.rides(0, 21), -1);
        due("p5 -3", x.rides(0, 12), -3);
        due("p5 nothing changes", x.horse(0, 3), 10);
        due("p5 nor the day", x.count(2), 998);
        due("p5 the last day", x.rides(0, 11), 1);
        due("p5 -3 then", x.rides(0, 10), -3);
        due("p5 no days are there", x.rides(0, 11), 0);
    }

    private static void p6To8() {
        HiredByLonging x = one(0, 0, 0);
        x.longs(0, 30);
        due("p6", x.taken(0, 20), 10);
        due("p6 at", x.horse(0, 3), 20);
        due("p6 longing", x.horse(0, 4), 30);
        due("p6 -1", x.taken(1, 0), -1);
        due("p6 -1", x.taken(0, 21), -1);
        due("p6 -1", x.taken(0, -1), -1);
        due("p7", x.longs(0, 99), 30);
        due("p7 then", x.longs(0, 0), 99);
        due("p7 -1", x.longs(0, 100), -1);
        due("p7 -1", x.longs(0, -1), -1);
        due("p7 -1", x.longs(-1, 5), -1);
        due("p7 nothing changes", x.horse(0, 4), 0);
        due("p8", x.hangs(20), 17);
        due("p8 then", x.hangs(0), 20);
        due("p8 -1", x.hangs(21), -1);
        due("p8 -1", x.hangs(-1), -1);
        due("p8 oats", x.count(1), 0);
    }

    /** What one day adds, 6 miles from home and from 20 less it, 7 from the oats. */
    private static void pines(int kind, int figure, int more) {
        HiredByLonging x = one(kind, figure, 4);
        due("p9 pines of " + kind + " figure " + figure, x.days(1), more);
        x.longs(0, 98);
        due("p9 99 at most, kind " + kind, x.days(1), more == 0 ? 49 : 99);
    }

    private static void p9() {
        pines(0, 9, 2);
        pines(1, 9, 0);
        pines(2, 9, 4);
        pines(3, 9, 2);
        pines(4, 9, 11);
        pines(4, 0, 2);
        pines(5, 9, 6);
        pines(5, 1, 2);
        pines(6, 9, 3);
        pines(7, 9, 0);
        HiredByLonging x = of("h000010;h000404;h200404;l099;l199;l299;");
        due("p9 all together", x.days(1), 99 + 49 + 99);
        due("p9 more days", x.days(2), 99 + 12 + 99);
        due("p9 day", x.count(2), 3);
        due("p9 -1", x.days(0), -1);
        due("p9 -1", x.days(61), -1);
        due("p9 -1", x.days(MIN), -1);
        for (int i = 0; i < 16; i++) {
            x.days(60);
        }
        due("p9 -1 ahead of -3", x.days(61), -1);
        due("p9 -3", x.days(37), -3);
        due("p9 up to 999", x.days(36), 198);
        due("p9 -3 then", x.days(1), -3);
        due("p9 day then", x.count(2), 999);
    }

    private static void p10And11() {
        HiredByLonging x = one(0, 3, 0);
        due("p10", x.howLong(0, 0), 6);
        due("p10 away", x.howLong(0, 20), 10);
        due("p10 there", x.howLong(0, 10), 0);
        due("p10 nothing changes", x.horse(0, 3) + x.count(2), 10);
        due("p10 -1", x.howLong(1, 0), -1);
        due("p10 -1", x.howLong(0, 21), -1);
        // A mare's goal turns on the way: 20 as seen from 9, and 0 from 11 on.
        HiredByLonging y = of("h600009;");
        due("p10 of a mare", y.howLong(0, 13), 3);
        due("p11 longing", x.behind(0, 5, 0), 15);
        due("p11 pace", x.behind(0, 5, 1), 4);
        due("p11 now", x.behind(0, 0, 1), 1);
        due("p11 60 days", x.behind(0, 60, 0), 99);
        due("p11 -1", x.behind(0, 61, 0), -1);
        due("p11 -1", x.behind(0, -1, 0), -1);
        due("p11 -1", x.behind(0, 5, 2), -1);
        due("p11 -1", x.behind(1, 5, 0), -1);
        due("p11 nothing changes", x.count(3), 0);
        for (int i = 0; i < 16; i++) {
            x.days(60);
        }
        x.days(39);
        due("p10 day no matter", x.howLong(0, 20), 10);
        due("p11 day no matter", x.behind(0, 60, 1), 25);
    }

    private static void p12() {
        // A content one takes 10 days; by way of 4, where the other has longed for 2 days, 7.
        HiredByLonging x = of("h100000;h002004;");
        due("p12 with another one", x.chain(0, 20, 0), 7);
        due("p12 first", x.chain(0, 20, 1), 0);
        due("p12 no horse there", x.chain(1, 20, 0), -4);
        due("p12 no horse there", x.chain(1, 20, 1), -4);
        due("p12 from a yard to itself", x.chain(1, 1, 0), 0);
        due("p12 from a yard to itself", x.chain(0, 0, 1), -4);
        // Each rides 5 miles in a day and walks beyond; four would take 4 days.
        x = of("h000500;h001005;h001510;h002015;l099;l199;l299;l399;");
        due("p12 at most 3", x.chain(0, 20, 0), 8);
        due("p12 three", x.chain(0, 15, 0), 3);
        x = of("h101010;h101010;h701010;h701010;");
        due("p12 of several the first", x.chain(10, 19, 1), 2);
        x = of("h002000;h002020;l099;");
        due("p12 nothing changes", x.chain(0, 20, 0) + x.horse(0, 3) + x.horse(0, 4) + x.count(2), 100);
        due("p12 -1", x.chain(21, 0, 0), -1);
        due("p12 -1", x.chain(0, -1, 0), -1);
        due("p12 -1", x.chain(0, 1, 2), -1);
        due("p12 -1", x.chain(0, 0, -1), -1);
        due("p12 -1", x.chain(21, 21, 0), -1);
    }

    private static void p13To15() {
        HiredByLonging x = new HiredByLonging();
        due("p13 none", x.hurry(5, 0), -4);
        due("p13 none", x.hurry(5, 1), -4);
        due("p13 -1 of none", x.hurry(21, 0), -1);
        due("p14 none", x.fastest(0), -4);
        due("p14 -1 of none", x.fastest(61), -1);
        due("p15 none", x.away(), 0);
        // The first rests at home with pace 11; the second, drowned with figure 9, pines 12 a day.
        x = of("h000000;h490010;h100010;l040;");
        due("p13 which", x.hurry(5, 0), 1);
        due("p13 days", x.hurry(5, 1), 3);
        due("p13 of several the least", x.hurry(11, 0), 1);
        due("p13 there", x.hurry(0, 1), 0);
        due("p13 -1", x.hurry(-1, 0), -1);
        due("p13 -1", x.hurry(0, 2), -1);
        due("p14 now", x.fastest(0), 0);
        due("p14 then", x.fastest(3), 1);
        due("p14 -1", x.fastest(-1), -1);
        due("p14 -1", x.fastest(61), -1);
        due("p14 60", x.fastest(60), 1);
        due("p14 of several the least", of("h100000;h000505;h200504;").fastest(0), 0);
        due("p15", x.away(), 2);
        due("p15 all kinds", of("h200020;h200000;h500000;h500001;h302000;h600010;").away(), 42);
    }

    private static void p16And17() {
        HiredByLonging x = one(0, 3, 0);
        due("p16", x.ripe(0, 5), 6);
        due("p16 at once", x.ripe(0, 1), 0);
        due("p16 25", x.ripe(0, 25), 32);
        due("p16 none", x.ripe(0, 26), -4);
        due("p16 -1", x.ripe(0, 0), -1);
        due("p16 -1", x.ripe(0, 61), -1);
        due("p16 -1", x.ripe(1, 5), -1);
        x.taken(0, 1);
        due("p16 the 60th day", x.ripe(0, 16), 60);
        x.longs(0, 1);
        due("p16 behind 59", x.ripe(0, 16), 59);
        due("p16 behind more than 60", one(0, 0, 9).ripe(0, 17), -4);
        x = one(0, 3, 0);
        due("p17", x.leastLonging(0, 0, 1), 36);
        due("p17 half the way", x.leastLonging(0, 0, 2), 16);
        due("p17 with none", x.leastLonging(0, 0, 6), 0);
        due("p17 no way", x.leastLonging(0, 0, 0), -4);
        due("p17 there", x.leastLonging(0, 10, 0), 0);
        due("p17 walks", x.leastLonging(0, 20, 9), -4);
        due("p17 walks", x.leastLonging(0, 20, 10), 0);
        due("p17 nothing changes", x.horse(0, 4), 0);
        due("p17 -1", x.leastLonging(0, 0, 21), -1);
        due("p17 -1", x.leastLonging(0, 0, -1), -1);
        due("p17 -1", x.leastLonging(0, 21, 1), -1);
        due("p17 -1", x.leastLonging(1, 0, 1), -1);
    }

    private static void p18To20() {
        // Behind a day it longs 10, and is there in two; at once it is in 1, 6, 14, 15.
        HiredByLonging x = of("h200000;h000010;");
        due("p18 w", x.soonest(0, 15, 0), 1);
        due("p18 days", x.soonest(0, 15, 1), 3);
        due("p18 of several the least", x.soonest(0, 20, 0), 0);
        due("p18 days", x.soonest(0, 20, 1), 4);
        due("p18 there", x.soonest(1, 10, 1), 0);
        due("p18 -1", x.soonest(2, 0, 0), -1);
        due("p18 -1", x.soonest(0, 21, 0), -1);
        due("p18 -1", x.soonest(0, 0, 2), -1);
        due("p19", x.race(0, 1, 0), 0);
        due("p19 turned", x.race(1, 0, 0), 0);
        due("p19 the other", x.race(0, 1, 12), 1);
        due("p19 alike", x.race(0, 1, 13), -4);
        due("p19 -1 one twice", x.race(0, 0, 5), -1);
        due("p19 -1", x.race(0, 2, 5), -1);
        due("p19 -1", x.race(2, 0, 5), -1);
        due("p19 -1", x.race(0, 1, 21), -1);
        due("p20", x.walkAhead(0, 13, 30, 0), 13);
        due("p20 days", x.walkAhead(0, 13, 30, 1), 0);
        due("p20 yard 0", x.walkAhead(1, 0, 0, 0), 0);
        due("p20 nothing changes", x.horse(0, 3), 0);
        due("p20 -1", x.walkAhead(0, 13, 31, 0), -1);
        due("p20 -1", x.walkAhead(0, 13, -1, 0), -1);
        due("p20 -1", x.walkAhead(0, 21, 3, 0), -1);
        due("p20 -1", x.walkAhead(2, 13, 3, 0), -1);
        due("p20 -1", x.walkAhead(0, 13, 3, 2), -1);
    }

    private static void p21To24() {
        HiredByLonging x = of("h500010;o04;");
        due("p21", x.hang(1, 0), 0);
        due("p21 longing", x.hang(1, 1), 3);
        due("p21 of no days", x.hang(0, 0), 0);
        due("p21 oats stay", x.count(1), 4);
        due("p21 -1", x.hang(61, 0), -1);
        due("p21 -1", x.hang(-1, 0), -1);
        due("p21 -1", x.hang(1, 2), -1);
        due("p21 another", of("h500003;").hang(2, 0), 18);
        due("p21 60", of("h500003;").hang(60, 1), 99);
        due("p22 none", new HiredByLonging().meet(0), 0);
        due("p22 none", new HiredByLonging().meet(1), 0);
        x = of("h100003;h100009;h100020;");
        due("p22", x.meet(0), 9);
        due("p22 days", x.meet(1), 9);
        due("p22 of several the least", of("h100004;h100008;").meet(0), 4);
        due("p22 -1", x.meet(2), -1);
        due("p22 -1", x.meet(-1), -1);
        due("p23", x.spread(), 2);
        due("p23 of several the first", of("h000010;h000000;h000010;h000000;").spread(), 1);
        due("p23 alike", of("h000010;h000010;h000010;").spread(), 1);
        due("p23 others", of("h000010;h000008;h000012;").spread(), 12);
        due("p23 none", of("h000010;").spread(), -4);
        due("p24 cheapest of none", new HiredByLonging().fees(-1, 5), -4);
        x = of("h000010;h100002;h290010;");
        due("p24 one", x.fees(0, 0), 12);
        due("p24 another", x.fees(1, 0), 1);
        due("p24 with a figure", x.fees(2, 8), 22);
        due("p24 cheapest", x.fees(-1, 0), 1);
        due("p24 of several the least", x.fees(-1, 10), 0);
        due("p24 -1 below", x.fees(-2, 0), -1);
        due("p24 -1", x.fees(3, 0), -1);
        due("p24 -1", x.fees(-1, 21), -1);
    }

    private static void p25() {
        HiredByLonging x = of("h100010;h000010;");
        Check.list(x, 3, 2, 10, 8, 6);
        due("p25 wherever its home is", x.homes(3, 0, 0, 0), 2097151);
        due("p25 how many", x.homes(3, 0, 0, 1), 21);
        due("p25 not so", x.homes(3, 1, 0, 0), 0);
        due("p25 not so", x.homes(3, 1, 0, 1), 0);
        // Pace 1 at first both ways, and 2 behind two days of 2, which tells 5 miles or more then.
        Check.list(x, 3, 0, 10, 9, 8, 6);
        due("p25 by a pace", x.homes(3, 1, 0, 0), 15);
        Check.list(x, 3, 0, 10, -128, -128, 6);
        due("p25 skipped", x.homes(3, 1, 0, 0), 15);
        Check.list(x, 3, 1, 10, -128, -32768, 6);
        due("p25 no least of shorts", x.homes(3, 1, 0, 0), 0);
        Check.list(x, 3, 2, MIN, MIN, MIN, 6);
        due("p25 least of ints", x.homes(3, 1, 0, 1), 4);
        Check.list(x, 3, 2, 10, 9, 9, 9);
        due("p25 there it stays", x.homes(3, 1, 9, 1), 21);
        Check.list(x, 3, 2);
        due("p25 a row of none", x.homes(3, 1, 9, 1), 21);
        due("p25 nothing changes", x.horse(1, 2) + x.horse(1, 3) + x.count(2), 10);
        due("p25 -1 ahead of -11", x.homes(0, 2, 0, 0), -11 + 10);
        due("p25 -1", x.homes(0, 0, 21, 0), -1);
        due("p25 -1", x.homes(0, 0, 0, 2), -1);
        due("p25 -1", x.homes(8, 0, 0, 0), -1);
        x.keep(0, 0, 0, 0);
        due("p25 -11", x.homes(0, 0, 0, 0), -11);
        x.keep(0, 1, 0, 0);
        due("p25 -12", x.homes(0, 0, 0, 0), -12);
    }

    private static void p26() {
        HiredByLonging x = of("h030010;h630010;");
        Check.list(x, 3, 2, 10, 8);
        due("p26 kinds", x.whatIs(3, 0, 0, 0), 98);
        due("p26 figures of a horse", x.whatIs(3, 0, 0, 1), 0);
        due("p26 figures of a mare", x.whatIs(3, 1, 0, 1), 56);
        due("p26 kinds by its figure", of0("h600010;", 10, 8).whatIs(3, 0, 0, 0), 34);
        Check.list(x, 3, 1, -32768, 7);
        due("p26 skipped", x.whatIs(3, 0, 0, 0), 128);
        Check.list(x, 3, 0, 10, 10);
        due("p26 there it stays", x.whatIs(3, 0, 10, 0), 255);
        due("p26 there it stays", x.whatIs(3, 0, 10, 1), 1023);
        due("p26 nothing changes", x.horse(0, 0) + x.horse(0, 1), 3);
        due("p26 -1", x.whatIs(7, 2, 0, 0), -1);
        due("p26 -1", x.whatIs(7, 0, -1, 0), -1);
        due("p26 -1", x.whatIs(7, 0, 0, -1), -1);
        due("p26 -1", x.whatIs(-1, 0, 0, 0), -1);
        due("p26 -11", x.whatIs(7, 0, 0, 0), -11);
        x.keep(7, 1, 0, 0);
        due("p26 -12", x.whatIs(7, 0, 0, 0), -12);
    }

    private static HiredByLonging of0(String text, int... row) {
        HiredByLonging x = of(text);
        Check.list(x, 3, 2, row);
        return x;
    }

    private static void p27() {
        // Waiting, the horse comes in 6 days, as the foal would; riding, in 2, behind the foal's 1.
        HiredByLonging x = of("h000010;h502003;o20;l012;");
        due("p27 who is behind waits", x.two(0, 1, 5), 10);
        due("p27 turned", x.two(1, 0, 5), 1);
        x = of("h100000;h100004;h100004;");
        due("p27 alike, one waits", x.two(1, 2, 10), 1);
        due("p27 the one behind would ride if the other waits", x.two(0, 1, 10), -4);
        due("p27 -1 one twice", x.two(1, 1, 10), -1);
        due("p27 -1", x.two(0, 3, 10), -1);
        due("p27 -1", x.two(-1, 0, 10), -1);
        due("p27 -1", x.two(0, 1, 21), -1);
        // Who is so far ahead that he may wait as well: 8 days against 0 and 5.
        due("p27 both wait", of("h100000;h100016;").two(0, 1, 16), 11);
    }

    private static void storm(HiredByLonging x, String how, long above, long below) {
        String[] a = how.split(" ");
        int v = Integer.parseInt(a[0]);
        int n = Integer.parseInt(a[1]);
        int t = Integer.parseInt(a[2]);
        due("p28 above " + how, x.storm(0, v, n, t, 0), above);
        due("p28 below " + how, x.storm(0, v, n, t, 1), below);
    }

    private static void p28And29() {
        HiredByLonging x = one(0, 3, 0);
        storm(x, "3 4 3", 16, 27);
        storm(x, "3 2 3", 0, 1);
        storm(x, "1 7 20", 1, 1);
        storm(x, "1 0 2", 1, 1);
        storm(x, "2 0 2", 0, 1);
        storm(x, "6 7 20", 893871739L, 1280000000L);
        storm(x, "2 2 20", 361, 400);
        HiredByLonging y = of("h000000;l008;");
        storm(y, "3 1 2", 1, 2);
        storm(y, "3 2 4", 1, 16);
        long refused = 1000000001L;
        due("p28 -1 horse", x.storm(1, 3, 4, 3, 0), refused);
        due("p28 -1 v", x.storm(0, 0, 4, 3, 0), refused);
        due("p28 -1 v", x.storm(0, 61, 4, 3, 0), refused);
        due("p28 -1 n", x.storm(0, 3, 8, 3, 0), refused);
        due("p28 -1 n", x.storm(0, 3, -1, 3, 0), refused);
        due("p28 -1 t", x.storm(0, 3, 4, 1, 0), refused);
        due("p28 -1 t", x.storm(0, 3, 4, 21, 0), refused);
        due("p28 -1 part", x.storm(0, 3, 4, 3, 2), refused);
        due("p29 of none", new HiredByLonging().mean(0), 0);
        due("p29 of none", new HiredByLonging().mean(1), 1);
        x = of("h000000;h000000;h000000;h000000;l007;l103;");
        due("p29", x.mean(0), 5);
        due("p29", x.mean(1), 2);
        x.longs(0, 0);
        x.longs(1, 0);
        due("p29 no longing", x.mean(0), 0);
        due("p29 no longing", x.mean(1), 1);
        due("p29 -1", x.mean(2), refused);
        due("p29 -1", x.mean(-1), refused);
    }

    private static int forged(HiredByLonging x, int... pairs) {
        Check.list(x, 4, 2, pairs);
        return x.forged(4);
    }

    private static void p30() {
        HiredByLonging x = of("h000003;h000020;h000005;");
        due("p30 of no pairs", forged(x), -4);
        due("p30 from where the first is", forged(x, 1, 7), -4);
        due("p30 on with another", forged(x, 0, 5, 2, 20, 1, 0), -4);
        due("p30 another is elsewhere", forged(x, 0, 5, 1, 20), 1);
        due("p30 the third", forged(x, 0, 5, 2, 20, 0, 0), 2);
        due("p30 one stays where it was ridden to", forged(x, 0, 20, 1, 5, 2, 20, 0, 4), -4);
        due("p30 the same again", forged(x, 0, 5, 0, 9, 0, 5), -4);
        due("p30 where it is", forged(x, 0, 3, 0, 9), -4);
        due("p30 no such horse", forged(x, 3, 5), 0);
        due("p30 no such horse", forged(x, 0, 5, -1, 5), 1);
        due("p30 no such yard", forged(x, 0, 21, 2, 20), 0);
        due("p30 no such yard", forged(x, 0, 5, 2, -1), 1);
        due("p30 unwhole", forged(x, 0, 5, 2), -13);
        due("p30 nothing changes", x.horse(0, 3) + x.count(2), 3);
        Check.list(x, 4, 0, 0, 5, 2, 20);
        due("p30 of bytes", x.forged(4), -4);
        due("p30 -1", x.forged(8), -1);
        due("p30 -11", x.forged(7), -11);
        x.keep(7, 1, 0, 0);
        due("p30 -12", x.forged(7), -12);
        x.taken(0, 5);
        for (int i = 0; i < 16; i++) {
            x.days(60);
        }
        x.days(39);
        due("p30 day no matter", forged(x, 0, 20, 1, 5), -4);
    }

    private static int judge(HiredByLonging x, int sort, int... row) {
        Check.list(x, 4, sort, row);
        return x.judge(4);
    }

    private static void p31() {
        HiredByLonging x = of("h000010;h100010;l108;");
        due("p31 so", judge(x, 2, 8, 7, 8, 10, 12), -4);
        due("p31 of none", judge(x, 2), -4);
        due("p31 now", judge(x, 2, 9, 7), 0);
        due("p31 then", judge(x, 1, 8, 7, 9, 9), 2);
        due("p31 skipped", judge(x, 0, -128, 7, -128, 11), 3);
        due("p31 skipped", judge(x, 1, -32768, 7), -4);
        due("p31 skipped", judge(x, 2, MIN, 7), -4);
        due("p31 not skipped", judge(x, 2, -32768, 7), 0);
        due("p31 nothing changes", x.count(2) + x.count(3), 8);
        due("p31 -1", x.judge(-1), -1);
        due("p31 -11", x.judge(7), -11);
        x.keep(7, 1, 0, 0);
        due("p31 -12", x.judge(7), -12);
    }

    private static void p32() {
        // The draws by seed 1 are 16838, 5758, 10113, 17515: 17, 4, 12, 1.
        HiredByLonging x = of("h000010;");
        due("p32 one land", x.lands(1, 1, 0), 40);
        due("p32 two lands", x.lands(2, 1, 0), 50);
        due("p32 at their goals", x.lands(2, 1, 1), 0);
        due("p32 at its goal", of("h001710;").lands(1, 1, 1), 1);
        due("p32 no longing there", of("h001710;").lands(1, 1, 0), 0);
        due("p32 from now", of("h000010;l007;").lands(2, 1, 0), 64);
        x = of("h000010;h000011;");
        due("p32 two horses", x.lands(1, 1, 0), 50);
        due("p32 two of two", x.lands(2, 1, 0), 90);
        due("p32 content ones", of("h100010;h100010;").lands(20, -77, 1), 40);
        due("p32 without its sign's bit", of("h001210;").lands(1, -2147483647, 0), 20);
        due("p32 nothing changes", x.horse(0, 3) + x.count(2), 10);
        due("p32 none", new HiredByLonging().lands(20, MIN, 0), 0);
        due("p32 -1", x.lands(0, 1, 0), -1);
        due("p32 -1", x.lands(21, 1, 0), -1);
        due("p32 -1", x.lands(1, 1, 2), -1);
    }

    private static void p33And34() {
        HiredByLonging x = of("h030510;o17;d05;l033;");
        due("p34 there is none", x.restore(), -3);
        due("p33", x.image(), 5);
        x.days(9);
        x.rides(0, 0);
        x.longs(0, 44);
        x.hangs(2);
        x.keep(5, 1, 6, 1);
        x.comes(5, 1, 1);
        due("p34", x.restore(), 5);
        int[] counts = {1, 17, 5, 33, 0, 9};
        for (int what = 0; what < 6; what++) {
            due("p34 count " + what, x.count(what), counts[what]);
        }
        int[] want = {0, 3, 5, 10, 33};
        for (int what = 0; what < 5; what++) {
            due("p34 horse " + what, x.horse(0, what), want[what]);
        }
        due("p34 shelves stay", x.cost(5), 5);
        x.days(1);
        x.comes(5, 1, 1);
        due("p34 once more", x.restore(), 5);
        due("p34 as it was", x.count(0), 1);
        x.days(2);
        due("p33 anew", x.image(), 7);
        x.days(3);
        due("p34 by the last image", x.restore(), 7);
        // What is changed behind it must not come into the image.
        x.longs(0, 99);
        x.taken(0, 20);
        x.restore();
        due("p34 longing of the image", x.horse(0, 4) * 100 + x.horse(0, 3), 3710);
    }

    private static void p35() {
        HiredByLonging x = of("h000010;h001010;h200010;o17;d02;l010;");
        int[] want = {3, 17, 2, 10 + 0 + 12, 1, 3 + 1 + 7};
        for (int what = 0; what < 6; what++) {
            due("p35 count " + what, x.count(what), want[what]);
        }
        due("p35 -1", x.count(6), -1);
        due("p35 -1", x.count(-1), -1);
        due("p35 -1", x.count(MAX), -1);
    }

    private static void p36To38() {
        HiredByLonging x = new HiredByLonging();
        due("p36 a kind", x.keep(7, 1, 7, 9), 0);
        due("p36 is there", x.cost(7), 4);
        due("p36 -1 shelf", x.keep(8, 1, 0, 0), -1);
        due("p36 -1 shelf", x.keep(-1, 0, 0, 0), -1);
        due("p36 -1 what", x.keep(7, 2, 0, 0), -1);
        due("p36 -1 what", x.keep(7, -1, 0, 0), -1);
        due("p36 -1 kind", x.keep(7, 1, 8, 0), -1);
        due("p36 -1 kind", x.keep(7, 1, -1, 0), -1);
        due("p36 -1 figure", x.keep(7, 1, 0, 10), -1);
        due("p36 -1 figure", x.keep(7, 1, 0, -1), -1);
        due("p36 nothing changes", x.cost(7), 4);
        due("p36 nothing, the others do not matter", x.keep(7, 0, MIN, MAX), 0);
        due("p36 nothing is there", x.cost(7), -11);
        due("p37", x.row(0, 0, 100), 0);
        due("p37 none", x.row(1, 2, 0), 0);
        due("p37 -1 shelf", x.row(8, 0, 1), -1);
        due("p37 -1 sort", x.row(0, 3, 1), -1);
        due("p37 -1 sort ahead of -14", x.row(0, -1, -1), -1);
        due("p37 -1 size", x.row(0, 0, 101), -1);
        due("p37 -14", x.row(0, 0, -1), -14);
        due("p37 -14", x.row(0, 0, MIN), -14);
        due("p37 nothing changes", x.put(0, 99, 5), 0);
        x.row(0, 0, 100);
        due("p37 0 at first", x.element(0, 99), 0);
        due("p38", x.put(0, 0, 127), 0);
        due("p38 -13", x.put(0, 100, 0), -13);
        due("p38 -13", x.put(0, -1, 0), -13);
        due("p38 -13 of a row of none", x.put(1, 0, 0), -13);
        due("p38 -1", x.put(8, 0, 0), -1);
        due("p38 -11", x.put(5, -1, 0), -11);
        x.keep(5, 1, 0, 0);
        due("p38 -12", x.put(5, -1, 0), -12);
    }

    private static void kept(int sort, int v, int want) {
        HiredByLonging x = new HiredByLonging();
        x.row(0, sort, 1);
        x.put(0, 0, v);
        due("p39 of sort " + sort + " " + v, x.element(0, 0), want);
    }

    private static void p39() {
        kept(0, 127, 127);
        kept(0, 128, -128);
        kept(0, 255, -1);
        kept(0, 256, 0);
        kept(1, 32767, 32767);
        kept(1, 32768, -32768);
        kept(1, 70000, 4464);
        kept(2, MIN, MIN);
        kept(2, MAX, MAX);
        HiredByLonging x = new HiredByLonging();
        x.row(0, 1, 3);
        due("p39 there", Check.thrownByElement(x, 0, 2), 0);
        due("p39 no such place", Check.thrownByElement(x, 0, 3), 2);
        due("p39 no such place", Check.thrownByElement(x, 0, -1), 2);
        due("p39 nothing held", Check.thrownByElement(x, 1, 0), 2);
        x.keep(1, 1, 0, 0);
        due("p39 a kind", Check.thrownByElement(x, 1, 0), 2);
        due("p39 no such shelf", Check.thrownByElement(x, 8, 0), 1);
        due("p39 no such shelf", Check.thrownByElement(x, -1, MAX), 1);
    }

    private static void p40() {
        HiredByLonging x = new HiredByLonging();
        Check.list(x, 0, 1, 1, 2, 3, 4, 5);
        Check.list(x, 1, 1, 9, 9, 9);
        due("p40", x.copy(0, 1, 1, 0, 2), 2);
        due("p40 the first", x.element(1, 0), 2);
        due("p40 the second", x.element(1, 1), 3);
        due("p40 the third stays", x.element(1, 2), 9);
        due("p40 within a row, on", x.copy(0, 0, 0, 1, 4), 4);
        due("p40 the last", x.element(0, 4), 4);
        due("p40 the second", x.element(0, 1), 1);
        due("p40 within a row, back", x.copy(0, 1, 0, 0, 4), 4);
        due("p40 the fourth", x.element(0, 3), 4);
        due("p40 none", x.copy(0, 5, 1, 3, 0), 0);
        due("p40 -13 beyond", x.copy(0, 6, 1, 0, 0), -13);
        due("p40 -13 beyond", x.copy(0, 4, 1, 0, 2), -13);
        due("p40 -13 beyond", x.copy(0, 0, 1, 2, 2), -13);
        due("p40 -13 below", x.copy(0, -1, 1, 0, 1), -13);
        due("p40 -13 below", x.copy(0, 0, 1, -1, 1), -13);
        due("p40 -13 size", x.copy(0, 0, 1, 0, -1), -13);
        due("p40 -13 far", x.copy(0, MAX, 1, 0, MAX), -13);
        due("p40 -13 far", x.copy(0, 1, 1, MAX, 1), -13);
        due("p40 -13 far", x.copy(0, 0, 1, 0, MIN), -13);
        due("p40 -1", x.copy(8, 0, 1, 0, 1), -1);
        due("p40 -1", x.copy(0, 0, -1, 0, 1), -1);
        due("p40 -11", x.copy(2, 0, 1, 0, 1), -11);
        due("p40 -11", x.copy(0, 0, 2, 0, 1), -11);
        x.keep(3, 1, 0, 0);
        due("p40 -11 ahead of -12", x.copy(3, 0, 2, 0, 1), -11);
        due("p40 -12 a kind", x.copy(3, 0, 1, 0, 1), -12);
        due("p40 -12 a kind", x.copy(0, 0, 3, 0, 1), -12);
        x.row(4, 2, 9);
        due("p40 -12 of two sorts, ahead of -13", x.copy(0, -1, 4, 0, 1), -12);
    }

    private static void shelf(int kind, int figure, int cost, int toss) {
        HiredByLonging x = new HiredByLonging();
        x.keep(2, 1, kind, figure);
        due("p41 kind " + kind + " figure " + figure, x.cost(2), cost);
        due("p42 kind " + kind + " figure " + figure, x.toss(2), toss);
    }

    private static void p41And42() {
        shelf(0, 9, 2, 9);
        shelf(0, 0, 2, -15);
        shelf(1, 9, 1, -15);
        shelf(2, 9, 11, 9);
        shelf(2, 0, 2, -15);
        shelf(3, 9, 4, 109);
        shelf(3, 1, 4, 101);
        shelf(3, 0, 4, -15);
        shelf(4, 9, 7, 9);
        shelf(4, 0, 7, -15);
        shelf(5, 9, 1, 9);
        shelf(5, 0, 1, -15);
        shelf(6, 9, 13, 213);
        shelf(6, 1, 5, 205);
        shelf(6, 0, 4, -15);
        shelf(7, 9, 4, -15);
        shelf(7, 0, 4, -15);
        HiredByLonging x = new HiredByLonging();
        x.row(1, 2, 2);
        due("p41 -1", x.cost(-1), -1);
        due("p41 -1", x.cost(8), -1);
        due("p41 -11", x.cost(0), -11);
        due("p41 -12", x.cost(1), -12);
        due("p42 -1", x.toss(-1), -1);
        due("p42 -1", x.toss(8), -1);
        due("p42 -11", x.toss(0), -11);
        due("p42 -12", x.toss(1), -12);
    }
}
