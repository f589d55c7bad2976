/**
 * Boundary cases of promises 33 to 42, the image and the shelves, by answers worked out by hand.
 * Arguments: the source's path, the document's path.
 */
public final class ShelfBoundsTest {
    private static Sentences s;

    public static void main(String[] args) {
        s = new Sentences(args);
        imageOfAll();
        imageButShelves();
        imageAgain();
        restoredAcross();
        counts();
        keeps();
        rowsAtFirst();
        rowsAnew();
        lowestBits();
        places();
        copyWhole();
        copyNone();
        copyOver();
        costs();
        tosses();
        staysThere();
        s.end("ShelfBoundsTest", 33, 42);
    }

    private static void due(String call, long got, long want) {
        s.due(call, got, want);
    }

    private static HiredByLonging of(String text) {
        return Check.of(text);
    }

    private static HiredByLonging rowOf(int sort, int... values) {
        HiredByLonging x = new HiredByLonging();
        Check.list(x, 0, sort, values);
        return x;
    }

    private static void isRow(HiredByLonging x, int d, int... want) {
        for (int i = 0; i < want.length; i++) {
            due("element " + i, Check.elementOrThrown(x, d, i), want[i]);
        }
        due("behind the last one", Check.elementOrThrown(x, d, want.length), 5000000002L);
    }

    private static void imageOfAll() {
        s.says(33, "THE IMAGE: all that there is, but SHELVES (and THE IMAGE); RESTORED all is as it was then.");
        HiredByLonging x = of("h690410;h200320;o20;d07;l188;");
        int pining = x.horse(0, 4);
        due("the image is taken", x.image(), 7);
        x.keep(0, 1, 5, 5);
        x.comes(0, 5, 5);
        x.rides(0, 0);
        x.rides(1, 3);
        x.longs(0, 1);
        x.hangs(1);
        x.days(50);
        due("it is restored", x.restore(), 7);
        due("horses", x.count(0), 2);
        due("oats", x.count(1), 20);
        due("day", x.count(2), 7);
        int[][] want = {{6, 9, 4, 10, pining}, {2, 0, 3, 20, 88}};
        for (int h = 0; h < 2; h++) {
            for (int what = 0; what < 5; what++) {
                due("horse " + h + ", " + what, x.horse(h, what), want[h][what]);
            }
        }
        s.says(34, "THE IMAGE: all that there is, but SHELVES (and THE IMAGE); RESTORED all is as it was then.");
        due("no third horse", x.horse(2, 0), -1);
        due("seven more days have room", x.days(60) < 0 ? 1 : 0, 0);
    }

    private static void imageButShelves() {
        s.says(34, "when THE IMAGE is RESTORED, SHELVES stay as they are");
        HiredByLonging x = new HiredByLonging();
        x.keep(1, 1, 6, 9);
        Check.list(x, 2, 2, 5, 6);
        x.image();
        x.keep(1, 0, 0, 0);
        x.put(2, 1, 7);
        x.row(3, 1, 4);
        x.keep(4, 1, 0, 3);
        due("restored", x.restore(), 0);
        due("nothing stays nothing", x.cost(1), -11);
        isRow(x, 2, 5, 7);
        isRow(x, 3, 0, 0, 0, 0);
        due("a kind stays", x.toss(4), 3);
    }

    private static void imageAgain() {
        s.says(34, "THE IMAGE is RESTORED: DAY. -3 there is none.");
        HiredByLonging x = of("h000005;");
        due("none", x.restore(), -3);
        due("none still", x.restore(), -3);
        x.image();
        for (int i = 0; i < 3; i++) {
            x.days(60);
            due("restored again", x.restore(), 0);
            due("longing then", x.horse(0, 4), 0);
        }
        x.days(9);
        due("another image", x.image(), 9);
        due("restored at once", x.restore(), 9);
        x.days(1);
        due("restored to the later one", x.restore(), 9);
        due("another object has none", new HiredByLonging().restore(), -3);
    }

    /** From no horses to seven and back, on the first day and on the last one. */
    private static void restoredAcross() {
        s.says(34, "RESTORED all is as it was then");
        HiredByLonging x = new HiredByLonging();
        x.image();
        x.keep(0, 1, 3, 3);
        for (int h = 0; h < 7; h++) {
            x.comes(0, h, h);
        }
        Made.lastDay(x, 0);
        due("the first day", x.restore(), 0);
        due("no horses", x.count(0), 0);
        due("no such horse", x.horse(0, 0), -1);
        due("room for one", x.comes(0, 1, 2), 0);
        x = Made.full();
        x.image();
        due("the last day", x.restore(), 999);
        due("seven horses", x.count(0), 7);
        due("no room", x.comes(0, 1, 2), -2);
        due("all longing", x.count(3), 693);
        due("no day more", x.days(1), -3);
    }

    private static void counts() {
        s.says(35, "0 HORSES, 1 OATS, 2 DAY, 3 all LONGING, 4 how many are AT their GOALS, 5 all PACE");
        HiredByLonging x = Made.full();
        due("7 horses", x.count(0), 7);
        due("oats in 20", x.count(1), 20);
        due("day 999", x.count(2), 999);
        due("all longing", x.count(3), 693);
        // Horses 0 to 6 as kinds, home 20 less their number: 25, 2, 50, 25, 25, 26 and 28.
        due("all pace", x.count(5), 181);
        // Only the content one rests; at 4 the blind one's goal is 2, at 10 the foal's is 20.
        due("at their goals", x.count(4), 1);
        due("seven at their goals", of("h100000;".repeat(7)).count(4), 7);
    }

    private static void keeps() {
        s.says(36, "SHELF d gets: what = 0 nothing (the others do not matter); 1 a KIND of HORSE of KIND k with a FIGURE: 0.");
        HiredByLonging x = new HiredByLonging();
        for (int d = 0; d < 8; d++) {
            due("a kind on " + d, x.keep(d, 1, d, 9 - d), 0);
        }
        int[] costs = {2, 1, 2 + 7, 4, 7, 1, 4 + 3, 4};
        for (int d = 0; d < 8; d++) {
            due("each shelf by itself, " + d, x.cost(d), costs[d]);
        }
        x.row(0, 0, 3);
        due("a kind in place of a row", x.keep(0, 1, 4, 0), 0);
        due("no row then", x.put(0, 0, 0), -12);
        due("nothing in place of a kind", x.keep(0, 0, 4, 0), 0);
        due("nothing then", x.put(0, 0, 0), -11);
        due("the next one stays", x.cost(1), 1);
    }

    private static void rowsAtFirst() {
        s.says(37, "A ROW has a SORT (0 bytes, 1 shorts, 2 ints) and 0 .. 100 elements, 0 at first");
        for (int sort = 0; sort < 3; sort++) {
            HiredByLonging x = new HiredByLonging();
            due("100 elements", x.row(7, sort, 100), 0);
            isRow(x, 7, new int[100]);
            due("one element", x.row(0, sort, 1), 0);
            isRow(x, 0, 0);
            due("no elements", x.row(0, sort, 0), 0);
            isRow(x, 0);
            due("no place in it", x.put(0, 0, 0), -13);
        }
    }

    private static void rowsAnew() {
        s.says(37, "SHELF d gets a ROW of a SORT: 0.");
        HiredByLonging x = rowOf(2, 1000000, 2000000, 3000000);
        x.row(0, 0, 2);
        isRow(x, 0, 0, 0);
        x.put(0, 0, 300);
        isRow(x, 0, 44, 0);
        x.row(0, 1, 3);
        isRow(x, 0, 0, 0, 0);
        x.put(0, 2, 70000);
        isRow(x, 0, 0, 0, 4464);
        x.keep(0, 0, 0, 0);
        x.row(0, 1, 3);
        isRow(x, 0, 0, 0, 0);
        x.keep(0, 1, 2, 2);
        due("a row in place of a kind", x.row(0, 2, 1), 0);
        due("no kind then", x.cost(0), -12);
    }

    private static void keeps(int sort, int v, int want) {
        due("sort " + sort + " of " + v, rowOf(sort, v).element(0, 0), want);
    }

    private static void lowestBits() {
        s.says(38, "what is put in keeps its lowest bits");
        int[] bytes = {127, 127, 128, -128, 129, -127, 255, -1, 256, 0, 257, 1, -128, -128, -129, 127, -256, 0};
        int[] shorts = {
            32767, 32767, 32768, -32768, 65535, -1, 65536, 0, 65537, 1, -32768, -32768, -32769, 32767, -65536, 0
        };
        for (int i = 0; i < bytes.length; i += 2) {
            keeps(0, bytes[i], bytes[i + 1]);
        }
        for (int i = 0; i < shorts.length; i += 2) {
            keeps(1, shorts[i], shorts[i + 1]);
        }
        keeps(0, Made.MAX, -1);
        keeps(0, Made.MIN, 0);
        keeps(1, Made.MAX, -1);
        keeps(1, Made.MIN, 0);
        keeps(1, 128, 128);
        keeps(1, -129, -129);
        keeps(2, Made.MAX, Made.MAX);
        keeps(2, Made.MIN, Made.MIN);
        keeps(2, 32768, 32768);
        keeps(2, -32769, -32769);
        keeps(2, 65536, 65536);
    }

    private static void places() {
        s.says(39, "Element i of the ROW.");
        HiredByLonging x = new HiredByLonging();
        x.row(0, 2, 100);
        due("the first", x.put(0, 0, Made.MIN), 0);
        due("the last", x.put(0, 99, Made.MAX), 0);
        due("the first is", x.element(0, 0), Made.MIN);
        due("the second is", x.element(0, 1), 0);
        due("the last but one is", x.element(0, 98), 0);
        due("the last is", x.element(0, 99), Made.MAX);
        due("one behind the last", x.put(0, 100, 1), -13);
        x.row(0, 2, 1);
        due("one left of a hundred", Check.elementOrThrown(x, 0, 1), 5000000002L);
        due("the one", x.element(0, 0), 0);
    }

    private static void copyWhole() {
        s.says(40, "n elements of the ROW in SHELF d from i on come to that in SHELF e from j on: n.");
        HiredByLonging x = rowOf(1, 1, 2, 3, 4);
        Check.list(x, 1, 1, 9, 9, 9, 9);
        due("all", x.copy(0, 0, 1, 0, 4), 4);
        isRow(x, 1, 1, 2, 3, 4);
        isRow(x, 0, 1, 2, 3, 4);
        due("one more than all", x.copy(0, 0, 1, 0, 5), -13);
        due("the last to the first", x.copy(0, 3, 1, 0, 1), 1);
        isRow(x, 1, 4, 2, 3, 4);
        due("the first to the last", x.copy(0, 0, 1, 3, 1), 1);
        isRow(x, 1, 4, 2, 3, 1);
        due("two from the last on", x.copy(0, 3, 1, 0, 2), -13);
        due("two to the last", x.copy(0, 0, 1, 3, 2), -13);
        isRow(x, 1, 4, 2, 3, 1);
        x = new HiredByLonging();
        x.row(0, 2, 100);
        x.row(1, 2, 100);
        x.put(0, 0, Made.MIN);
        x.put(0, 99, Made.MAX);
        due("a hundred", x.copy(0, 0, 1, 0, 100), 100);
        due("the first of a hundred", x.element(1, 0), Made.MIN);
        due("the last of a hundred", x.element(1, 99), Made.MAX);
        due("101", x.copy(0, 0, 1, 0, 101), -13);
    }

    private static void copyNone() {
        s.says(40, "-13 a place that isn't there (a number or a size that isn't as told, too)");
        HiredByLonging x = rowOf(0, 1, 2, 3);
        Check.list(x, 1, 0, 9, 9);
        x.row(2, 0, 0);
        due("none of a row", x.copy(0, 0, 1, 0, 0), 0);
        due("none of no elements", x.copy(2, 0, 2, 0, 0), 0);
        due("none from behind the last one", x.copy(0, 3, 1, 2, 0), 0);
        due("none from farther", x.copy(0, 4, 1, 0, 0), -13);
        due("none to farther", x.copy(0, 0, 1, 3, 0), -13);
        due("none from before the first", x.copy(0, -1, 1, 0, 0), -13);
        due("none to before the first", x.copy(0, 0, 1, -1, 0), -13);
        due("less than none", x.copy(0, 1, 1, 1, -1), -13);
        due("far less than none", x.copy(0, 1, 1, 1, Made.MIN), -13);
        isRow(x, 0, 1, 2, 3);
        isRow(x, 1, 9, 9);
    }

    private static void copyOver() {
        s.says(40, "come to that in SHELF e from j on");
        HiredByLonging x = rowOf(0, 1, 2, 3, 4, 5);
        due("to itself, where they are", x.copy(0, 0, 0, 0, 5), 5);
        isRow(x, 0, 1, 2, 3, 4, 5);
        due("one on", x.copy(0, 0, 0, 1, 4), 4);
        isRow(x, 0, 1, 1, 2, 3, 4);
        x = rowOf(0, 1, 2, 3, 4, 5);
        due("one back", x.copy(0, 1, 0, 0, 4), 4);
        isRow(x, 0, 2, 3, 4, 5, 5);
    }

    private static HiredByLonging kind(int kind, int figure) {
        HiredByLonging x = new HiredByLonging();
        x.keep(5, 1, kind, figure);
        return x;
    }

    private static void costs() {
        s.says(41, "COST of the one on SHELF d: HORSE 2; CONTENT 1; BLIND FIGURE more than a HORSE's; TWO twice a HORSE's; DROWNED 7; FOAL 1 less than a HORSE's; MARE FIGURE more than TWO; GELDING 3 more than a CONTENT one's.");
        int[] least = {2, 1, 2, 4, 7, 1, 4, 4};
        for (int k = 0; k < 8; k++) {
            for (int figure = 0; figure < 10; figure++) {
                int more = k == 2 || k == 6 ? figure : 0;
                due("kind " + k + ", figure " + figure, kind(k, figure).cost(5), least[k] + more);
            }
        }
    }

    private static void tosses() {
        s.says(42, "The FAILURE of the one on SHELF d is thrown, and caught: its FIGURE; of TWO 100 more (of MARES, too); of MARES 200 plus their COST, in place of all that (FIGURE, too).");
        for (int figure = 0; figure < 10; figure++) {
            boolean none = figure == 0;
            due("horse, figure " + figure, kind(0, figure).toss(5), none ? -15 : figure);
            due("content, figure " + figure, kind(1, figure).toss(5), -15);
            due("blind, figure " + figure, kind(2, figure).toss(5), none ? -15 : figure);
            due("two, figure " + figure, kind(3, figure).toss(5), none ? -15 : 100 + figure);
            due("drowned, figure " + figure, kind(4, figure).toss(5), none ? -15 : figure);
            due("foal, figure " + figure, kind(5, figure).toss(5), none ? -15 : figure);
            due("mare, figure " + figure, kind(6, figure).toss(5), none ? -15 : 204 + figure);
            due("gelding, figure " + figure, kind(7, figure).toss(5), -15);
        }
    }

    private static void staysThere() {
        s.says(42, "what is taken from a SHELF, stay there");
        HiredByLonging x = kind(6, 9);
        for (int i = 0; i < 3; i++) {
            due("tossed", x.toss(5), 213);
            due("its cost", x.cost(5), 13);
        }
        due("none comes by it", x.count(0), 0);
    }
}
