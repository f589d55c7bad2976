import java.util.function.Supplier;

/**
 * Boundary cases of promise 2, THE TEXT of a LAND: each byte of each statement, both kinds of FAULT,
 * each number's range. Arguments: the source's path, the document's path.
 */
public final class TextBoundsTest {
    private static final String[] STATEMENTS = {"h361204;", "r005;", "o05;", "d10;", "l042;"};
    private static final String AHEAD = "o01;d01;";
    /** What is no digit: beside the digits, beside ";", the least and the greatest byte. */
    private static final int[] NO_DIGITS = {'/', ':', ';', '<', '-', ' ', 'o', 0, 127, 128, '0' + 128, 255};
    private static final int[] NO_ENDS = {':', '<', '0', '9', ' ', 'h', 0, 10, ';' + 128, 255};
    private static final int[] NO_LETTERS = {
        'H', 'R', 'O', 'D', 'L', 'g', 'i', 'q', 's', 'n', 'p', 'c', 'e', 'k', 'm', ';', '0', ' ', 0, 'h' + 128, 255
    };

    private static Sentences s;

    public static void main(String[] args) {
        s = new Sentences(args);
        atLeastOne();
        lacks();
        firstByte();
        justAsManyDigits();
        lowestBits();
        aHundredBytes();
        kindsAndFigures();
        yards();
        ofSuchHorses();
        daysInRange();
        longings();
        dayAbove();
        noRoom();
        firstStatement();
        firstKindFirst();
        oneBehindTheOther();
        allOrNothing();
        theRowStays();
        s.end("TextBoundsTest", 2, 2);
    }

    /** A land with a horse of home 0 at 3 and oats in 2, on which a text is tried. */
    private static HiredByLonging before(int... bytes) {
        HiredByLonging x = Check.of("h000003;o02;");
        Check.list(x, 0, 0, bytes);
        return x;
    }

    private static int[] bytes(String text) {
        return text.chars().toArray();
    }

    /** The text has this FAULT, and nothing of it comes. */
    private static void fault(String text, int want) {
        s.refused(() -> before(bytes(text)), "'" + text + "'", x -> x.land(0), want);
    }

    private static void comes(String text, int want) {
        s.due("'" + text + "'", before(bytes(text)).land(0), want);
    }

    private static void faultOf(Supplier<HiredByLonging> made, String text, int want) {
        s.refused(() -> {
            HiredByLonging x = made.get();
            Check.write(x, 0, text);
            return x;
        }, "'" + text + "'", x -> x.land(0), want);
    }

    private static void atLeastOne() {
        s.says(2, "STATEMENTS, each with \";\" behind, one at least");
        fault("", -1000);
        faultOf(Made::empty, "", -1000);
        fault(";", -1000);
        for (String one : STATEMENTS) {
            comes(one, 1);
            comes(AHEAD + one, 3);
            fault(one.substring(0, one.length() - 1), -1000 - one.length() + 1);
            fault(one + ";", -1000 - one.length());
        }
    }

    private static void lacks() {
        s.says(2, "(the end, if something lacks): -1000 less the place");
        for (String one : STATEMENTS) {
            for (int n = 0; n < one.length(); n++) {
                fault(one.substring(0, n), -1000 - n);
                if (n > 0) {
                    fault(AHEAD + one.substring(0, n), -1008 - n);
                }
            }
        }
    }

    private static void firstByte() {
        s.says(2, "FAULT: kind 1 the place of the first byte with which no LAND can go on");
        for (String one : STATEMENTS) {
            int end = one.length() - 1;
            badBytes(one, 0, NO_LETTERS);
            for (int i = 1; i < end; i++) {
                badBytes(one, i, NO_DIGITS);
            }
            badBytes(one, end, NO_ENDS);
        }
        // Two such bytes: the first one is told.
        fault("h3612x4:", -1005);
        fault("x;h361204", -1000);
        fault("o0;d10;", -1002);
    }

    private static void badBytes(String one, int i, int[] bad) {
        for (int b : bad) {
            int[] alone = bytes(one);
            alone[i] = b;
            badAt(alone, i);
            int[] behind = bytes(AHEAD + one + "o03;");
            behind[AHEAD.length() + i] = b;
            badAt(behind, AHEAD.length() + i);
        }
    }

    private static void badAt(int[] text, int i) {
        s.refused(() -> before(text), "byte " + text[i] + " at " + i, x -> x.land(0), -1000 - i);
    }

    private static void justAsManyDigits() {
        s.says(2, "Numbers in THE TEXT have just as many digits as told");
        fault("h36124;", -1006);
        fault("h3612004;", -1007);
        fault("r05;", -1003);
        fault("r0005;", -1004);
        fault("o5;", -1002);
        fault("o005;", -1003);
        fault("d9;", -1002);
        fault("d009;", -1003);
        fault("l05;", -1003);
        fault("l0005;", -1004);
        fault("l;", -1001);
    }

    private static void lowestBits() {
        s.says(2, "what is put in keeps its lowest bits");
        s.due("an o by 256 more, digits by less", before('o' + 256, '0' - 256, '7' + 65536, ';').land(0), 1);
        HiredByLonging x = before('o' - 256, '2', Integer.MIN_VALUE + '0', ';' + 512);
        s.due("an o by 256 less", x.land(0), 1);
        s.due("the oats then", x.count(1), 20);
    }

    private static void aHundredBytes() {
        s.says(2, "0 .. 100 elements");
        HiredByLonging x = before(bytes("d01;".repeat(25)));
        s.due("25 statements in a hundred bytes", x.land(0), 25);
        s.due("the day then", x.count(2), 25);
        fault("d01;".repeat(24) + "d01", -1099);
        fault("d01;".repeat(24) + "d011", -1099);
        fault("d01;".repeat(24) + "h361", -1100);
        fault("d01;".repeat(24) + "l000", -1100);
        fault("d01;".repeat(24) + "r000", -1100);
        fault("d01;".repeat(24) + "d1", -1098);
        fault("d01;".repeat(24) + "d61;", -2096);
        fault("d01;".repeat(24) + "d61:", -1099);
    }

    private static void kindsAndFigures() {
        s.says(2, "\"h\" KIND, FIGURE (a digit each), HOME, AT (2 digits each): a HORSE more");
        for (int k = 0; k < 8; k++) {
            HiredByLonging x = before(bytes("h" + k + "92000;"));
            s.due("kind " + k, x.land(0), 1);
            s.due("its kind", x.horse(1, 0), k);
            s.due("its figure", x.horse(1, 1), 9);
            s.due("its home", x.horse(1, 2), 20);
            s.due("where it is", x.horse(1, 3), 0);
            s.due("its longing", x.horse(1, 4), 0);
        }
        fault("h800000;", -2000);
        fault("h900000;", -2000);
        comes("h700000;", 1);
        comes("h790020;", 1);
    }

    private static void yards() {
        s.says(2, "YARDS 0 .. 20 along a road");
        for (String yard : new String[] {"00", "01", "09", "10", "19", "20"}) {
            comes("h00" + yard + "03;", 1);
            comes("h0003" + yard + ";", 1);
            comes("r0" + yard + ";", 1);
            comes("o" + yard + ";", 1);
        }
        for (String yard : new String[] {"21", "22", "29", "30", "90", "99"}) {
            fault("h00" + yard + "03;", -2000);
            fault("h0003" + yard + ";", -2000);
            fault("r0" + yard + ";", -2000);
            fault("o" + yard + ";", -2000);
        }
    }

    private static void ofSuchHorses() {
        s.says(2, "(a number out of range, no such HORSE, DAY above 999 then, no room): -2000 less the place.");
        faultOf(Made::empty, "r000;", -2000);
        faultOf(Made::empty, "l000;", -2000);
        for (int h = 1; h < 10; h++) {
            fault("r" + h + "03;", -2000);
            fault("l" + h + "03;", -2000);
        }
        Supplier<HiredByLonging> seven = () -> Check.of("h000000;".repeat(7));
        for (int h = 0; h < 10; h++) {
            if (h < 7) {
                s.due("a ride of " + h, Check.land(seven.get(), "r" + h + "01;"), 1);
                s.due("longing of " + h, Check.land(seven.get(), "l" + h + "01;"), 1);
            } else {
                faultOf(seven, "r" + h + "01;", -2000);
                faultOf(seven, "l" + h + "01;", -2000);
            }
        }
    }

    private static void daysInRange() {
        s.says(2, "\"d\" DAYS (2 digits, 1 .. 60): they go by");
        fault("d00;", -2000);
        fault("d61;", -2000);
        fault("d99;", -2000);
        for (int n : new int[] {1, 2, 59, 60}) {
            HiredByLonging x = before('d', '0' + n / 10, '0' + n % 10, ';');
            s.due("days " + n, x.land(0), 1);
            s.due("the day behind " + n, x.count(2), n);
            // It pines 1 a day, 3 miles from home.
            s.due("longing behind " + n, x.horse(0, 4), n);
        }
    }

    private static void longings() {
        s.says(2, "\"l\" a HORSE (a digit), LONGING (2 digits)");
        for (int v : new int[] {0, 1, 9, 10, 98, 99}) {
            HiredByLonging x = before('l', '0', '0' + v / 10, '0' + v % 10, ';');
            x.longs(0, 50);
            s.due("longing " + v, x.land(0), 1);
            s.due("its longing then", x.horse(0, 4), v);
        }
    }

    private static Supplier<HiredByLonging> late(int left) {
        return () -> Made.lastDay(Check.of("h000003;"), left);
    }

    private static void dayAbove() {
        s.says(2, "DAY above 999 then");
        for (int n : new int[] {1, 30, 59, 60}) {
            String days = "d" + n / 10 + n % 10 + ";";
            s.due(days + " up to 999", Check.land(late(n).get(), days), 1);
            faultOf(late(n - 1), days, -2000);
        }
        // It walks a mile a day away from home.
        s.due("a ride up to 999", Check.land(late(17).get(), "r020;"), 1);
        faultOf(late(16), "r020;", -2000);
        s.due("a ride of one day", Check.land(late(1).get(), "r004;"), 1);
        faultOf(late(0), "r004;", -2000);
        s.due("a ride of no days on 999", Check.land(late(0).get(), "r003;"), 1);
        faultOf(late(9), "d09;r004;", -2004);
        faultOf(late(9), "d09;d01;", -2004);
        faultOf(late(9), "r012;d01;", -2005);
        s.due("both up to 999", Check.land(late(10).get(), "r012;d01;"), 2);
        s.due("what takes no day goes on", Check.land(late(9).get(), "d09;r003;o20;l099;h000000;"), 5);
    }

    private static void noRoom() {
        s.says(2, "HORSES 0 .. 6 as they come (7 at most)");
        String one = "h000000;";
        for (int n = 0; n < 8; n++) {
            int there = n;
            Supplier<HiredByLonging> made = () -> {
                HiredByLonging x = Made.empty();
                if (there > 0) {
                    Check.land(x, one.repeat(there));
                }
                return x;
            };
            if (n < 7) {
                s.due("up to seven from " + n, Check.land(made.get(), one.repeat(7 - n)), 7 - n);
            }
            faultOf(made, one.repeat(8 - n), -2000 - 8 * (7 - n));
        }
    }

    private static void firstStatement() {
        s.says(2, "kind 2 the place of the letter of the first STATEMENT that is not as it must be");
        fault("o21;d61;", -2000);
        fault("o20;d61;r121;", -2004);
        fault("o20;d01;r121;h800000;", -2008);
        fault("h000000;r100;l150;h080000;l300;", -2026);
        fault("h000000;l199;o03;l299;", -2017);
        fault("l000;l000;l000;l100;", -2015);
        fault("r003;r003;r003;r021;d00;", -2015);
    }

    private static void firstKindFirst() {
        s.says(2, "else kind 2 the place");
        fault("d00;x", -1004);
        fault("o99;r921;h999999;d9", -1019);
        fault("h800000;o0", -1010);
        fault("d61;;", -1004);
    }

    private static void oneBehindTheOther() {
        s.says(2, "STATEMENTS are tried one behind the other, each on what those ahead of it made, and the first that can't be done so is told (kind 2).");
        faultOf(Made::empty, "r000;h000000;", -2000);
        s.due("a horse made ahead of its ride", Check.land(Made.empty(), "h000007;r007;l012;"), 3);
        // A foal at 4 pines by where the oats are as the day goes by: 1, and 16 miles off 4.
        s.due("oats ahead of the day", after("h500004;o20;d01;"), 4);
        s.due("oats behind the day", after("h500004;d01;o20;"), 1);
        s.due("longing ahead of the day", after("h000004;l009;d01;"), 10);
        s.due("longing behind the day", after("h000004;d01;l009;"), 9);
        // By longing 36 it is home in a day, and has half then.
        s.due("longing ahead of the ride", after("h000010;l036;r000;"), 18);
    }

    private static int after(String text) {
        HiredByLonging x = Check.of(text);
        return x.horse(0, 4);
    }

    private static void allOrNothing() {
        s.says(2, "Without FAULT all of it comes, with one nothing.");
        String all = "h561305;o09;d30;l055;r020;h111213;";
        fault(all + "d00;", -2034);
        fault(all + "d0", -1036);
        fault("o09;d30;o21;", -2008);
        fault("d30;r021;", -2004);
        HiredByLonging x = before(bytes(all));
        s.due("without a fault", x.land(0), 6);
        s.due("horses", x.count(0), 3);
        s.due("oats", x.count(1), 9);
        s.due("the day", x.count(2), 30 + 17);
        s.due("where it was ridden", x.horse(0, 3), 20);
        s.due("the last one", x.horse(2, 2) * 100 + x.horse(2, 3), 1213);
    }

    private static void theRowStays() {
        s.says(2, "The ROW of a text, and what is taken from a SHELF, stay there");
        HiredByLonging x = before(bytes("h000000;"));
        for (int n = 1; n < 7; n++) {
            s.due("the same text again", x.land(0), 1);
            s.due("horses then", x.count(0), n + 1);
        }
        s.due("no room then", x.land(0), -2000);
        s.due("the row still", x.element(0, 0), 'h');
        s.due("the row's end still", x.element(0, 7), ';');
    }
}
