import java.util.function.Supplier;
import java.util.function.ToLongFunction;

/**
 * The refusals but for numbers out of their ranges (RangesTest has these): what shelves hold, what
 * has no room, what is too late; which of several is told; and a look behind each, for nothing may
 * have changed. Arguments: the source's path, the document's path.
 */
public final class RefusalsTest {
    private static final String ORDER =
            "Answers of several REFUSALS are the first one as they are told at the call.";
    private static final Supplier<HiredByLonging> EMPTY = Made::empty;
    private static final Supplier<HiredByLonging> SOME = Made::some;
    private static final Supplier<HiredByLonging> FULL = Made::full;

    private static Sentences s;

    public static void main(String[] args) {
        s = new Sentences(args);
        nothingHeld();
        otherKind();
        noRoom();
        tooLate();
        noImage();
        unwhole();
        noFailure();
        orderOfTheLand();
        orderOfRows();
        orderOfShelves();
        thrown();
        s.end("RefusalsTest", 39, 42);
    }

    private static void no(Supplier<HiredByLonging> made, String call, ToLongFunction<HiredByLonging> ask,
            long want) {
        s.refused(made, call, ask, want);
    }

    /** Shelf 0 holds nothing on the object with some. */
    private static void nothingHeld() {
        String words = "Their REFUSALS: -11 nothing is held where something is wanted;";
        s.says(2, words);
        no(SOME, "land(0)", x -> x.land(0), -11);
        no(EMPTY, "land(7) of a new object", x -> x.land(7), -11);
        s.says(4, words);
        no(SOME, "comes(0, 0, 0)", x -> x.comes(0, 0, 0), -11);
        no(FULL, "comes(7, 20, 20) of seven", x -> x.comes(7, 20, 20), -11);
        s.says(25, words);
        no(SOME, "homes(0, 0, 0, 0)", x -> x.homes(0, 0, 0, 0), -11);
        s.says(26, words);
        no(SOME, "whatIs(0, 0, 0, 1)", x -> x.whatIs(0, 0, 0, 1), -11);
        s.says(30, words);
        no(SOME, "forged(0)", x -> x.forged(0), -11);
        no(EMPTY, "forged(7) of a new object", x -> x.forged(7), -11);
        s.says(31, words);
        no(SOME, "judge(0)", x -> x.judge(0), -11);
        no(EMPTY, "judge(7) of a new object", x -> x.judge(7), -11);
        s.says(38, words);
        no(SOME, "put(0, 0, 1)", x -> x.put(0, 0, 1), -11);
        s.says(40, words);
        no(SOME, "copy(0, 0, 2, 0, 1)", x -> x.copy(0, 0, 2, 0, 1), -11);
        no(SOME, "copy(2, 0, 0, 0, 1)", x -> x.copy(2, 0, 0, 0, 1), -11);
        no(SOME, "copy(0, 0, 0, 0, 0)", x -> x.copy(0, 0, 0, 0, 0), -11);
        s.says(41, words);
        no(SOME, "cost(0)", x -> x.cost(0), -11);
        s.says(42, words);
        no(SOME, "toss(0)", x -> x.toss(0), -11);
    }

    /** Shelves 1 and 7 hold a kind there, 2, 5 and 6 bytes, 3 shorts, 4 ints. */
    private static void otherKind() {
        String words = "-12 it is of another kind;";
        s.says(2, words);
        no(SOME, "land(1) of a kind", x -> x.land(1), -12);
        no(SOME, "land(3) of shorts", x -> x.land(3), -12);
        no(SOME, "land(4) of ints", x -> x.land(4), -12);
        no(FULL, "land(2) of a hundred shorts", x -> x.land(2), -12);
        s.says(4, words);
        for (int d = 2; d < 7; d++) {
            int row = d;
            no(SOME, "comes(" + d + ", 0, 0) of a row", x -> x.comes(row, 0, 0), -12);
        }
        s.says(25, words);
        no(SOME, "homes(1, 0, 0, 0)", x -> x.homes(1, 0, 0, 0), -12);
        s.says(26, words);
        no(SOME, "whatIs(7, 0, 0, 0)", x -> x.whatIs(7, 0, 0, 0), -12);
        s.says(30, words);
        no(SOME, "forged(1)", x -> x.forged(1), -12);
        s.says(31, words);
        no(SOME, "judge(7)", x -> x.judge(7), -12);
        s.says(38, words);
        no(SOME, "put(1, 0, 1)", x -> x.put(1, 0, 1), -12);
        s.says(40, words);
        no(SOME, "copy of a kind", x -> x.copy(1, 0, 2, 0, 1), -12);
        no(SOME, "copy to a kind", x -> x.copy(2, 0, 7, 0, 1), -12);
        no(SOME, "copy of bytes to shorts", x -> x.copy(2, 0, 3, 0, 1), -12);
        no(SOME, "copy of bytes to ints", x -> x.copy(2, 0, 4, 0, 0), -12);
        no(SOME, "copy of shorts to bytes", x -> x.copy(3, 0, 2, 0, 1), -12);
        no(SOME, "copy of shorts to ints", x -> x.copy(3, 0, 4, 0, 1), -12);
        no(SOME, "copy of ints to bytes", x -> x.copy(4, 0, 5, 0, 0), -12);
        no(SOME, "copy of ints to shorts", x -> x.copy(4, 0, 3, 0, 1), -12);
        s.says(41, words);
        for (int d = 2; d < 7; d++) {
            int row = d;
            no(SOME, "cost(" + d + ") of a row", x -> x.cost(row), -12);
        }
        s.says(42, words);
        for (int d = 2; d < 7; d++) {
            int row = d;
            no(SOME, "toss(" + d + ") of a row", x -> x.toss(row), -12);
        }
    }

    private static void noRoom() {
        s.says(4, "-2 there is no room");
        no(FULL, "comes(0, 3, 4) of seven", x -> x.comes(0, 3, 4), -2);
        HiredByLonging x = Made.empty();
        x.keep(3, 1, 0, 0);
        for (int h = 0; h < 7; h++) {
            s.due("comes as number " + h, x.comes(3, 0, 0), h);
        }
        s.due("an eighth one", x.comes(3, 0, 0), -2);
        s.due("how many then", x.count(0), 7);
    }

    private static void tooLate() {
        s.says(5, "-3 DAY above 999 then.");
        // A content one goes 2 miles a day, so that the days left tell how far it comes from 0.
        for (int left = 0; left < 10; left++) {
            int few = left;
            Supplier<HiredByLonging> made = () -> Made.lastDay(Check.of("h100000;h000305;l144;"), few);
            no(made, "a mile too far with days left: " + left, x -> x.rides(0, 2 * few + 1), -3);
            HiredByLonging x = made.get();
            s.due("just as far with days left: " + left, x.rides(0, 2 * left), left);
            s.due("the day then", x.count(2), 999);
        }
        no(FULL, "rides(1, 3) on the last day", x -> x.rides(1, 3), -3);
        s.due("a ride of no days on the last day", Made.full().rides(1, 2), 0);
        s.says(9, "-1, -3 DAY above 999.");
        no(FULL, "days(1) on the last day", x -> x.days(1), -3);
        no(FULL, "days(60) on the last day", x -> x.days(60), -3);
        no(() -> Made.lastDay(Made.some(), 59), "days(60) with 59 left", x -> x.days(60), -3);
        no(() -> Made.lastDay(Made.some(), 1), "days(2) with 1 left", x -> x.days(2), -3);
        HiredByLonging x = Made.lastDay(Made.some(), 60);
        s.due("days(60) with 60 left", x.days(60) < 0 ? 0 : 1, 1);
        s.due("day 999", x.count(2), 999);
    }

    private static void noImage() {
        s.says(34, "-3 there is none.");
        no(EMPTY, "restore() of a new object", x -> x.restore(), -3);
        no(() -> Check.of("h000310;d09;"), "restore() of a land", x -> x.restore(), -3);
    }

    private static void unwhole() {
        s.says(30, "-13 (unwhole)");
        no(SOME, "forged(6) of three", x -> x.forged(6), -13);
        no(SOME, "forged(3) of five shorts", x -> x.forged(3), -13);
        for (int n = 1; n < 100; n += 98) {
            int size = n;
            no(() -> rowOf(size), "forged of " + n, x -> x.forged(0), -13);
        }
        s.due("of none, a whole row", rowOf(0).forged(0), -4);
        s.due("of two: no such horse", rowOf(2).forged(0), 0);
    }

    private static HiredByLonging rowOf(int n) {
        HiredByLonging x = Made.empty();
        x.row(0, 1, n);
        return x;
    }

    private static HiredByLonging shelved(int kind, int figure) {
        HiredByLonging x = Made.some();
        x.keep(3, 1, kind, figure);
        return x;
    }

    private static void noFailure() {
        s.says(42, "-15: CONTENT ones, GELDINGS, and any with FIGURE 0, have none.");
        for (int k = 0; k < 8; k++) {
            int kind = k;
            no(() -> shelved(kind, 0), "toss of kind " + k + " with figure 0", x -> x.toss(3), -15);
            boolean none = k == 1 || k == 7;
            for (int figure = 1; figure < 10; figure++) {
                s.due("toss of kind " + k + " with figure " + figure + " is -15",
                        shelved(k, figure).toss(3) == -15 ? 1 : 0, none ? 1 : 0);
            }
        }
        no(SOME, "toss(7) of a content one", x -> x.toss(7), -15);
    }

    private static void orderOfTheLand() {
        s.says(2, ORDER);
        no(FULL, "land(8)", x -> x.land(8), -1);
        s.says(4, ORDER);
        no(SOME, "no home ahead of -11", x -> x.comes(0, 21, 0), -1);
        no(SOME, "no yard ahead of -11", x -> x.comes(0, 0, 21), -1);
        no(SOME, "no home ahead of -12", x -> x.comes(2, -1, 0), -1);
        no(SOME, "no yard ahead of -12", x -> x.comes(2, 0, -1), -1);
        no(FULL, "no home ahead of -2", x -> x.comes(0, 21, 0), -1);
        no(FULL, "no yard ahead of -2", x -> x.comes(0, 0, -1), -1);
        no(FULL, "no shelf ahead of -2", x -> x.comes(8, 0, 0), -1);
        no(FULL, "-11 ahead of -2", x -> x.comes(5, 0, 0), -11);
        no(FULL, "-12 ahead of -2", x -> x.comes(1, 0, 0), -12);
        s.says(5, ORDER);
        no(FULL, "no horse ahead of -3", x -> x.rides(7, 0), -1);
        no(FULL, "no yard ahead of -3", x -> x.rides(1, 21), -1);
        s.says(9, ORDER);
        no(FULL, "no days ahead of -3", x -> x.days(0), -1);
        no(FULL, "too many days ahead of -3", x -> x.days(61), -1);
    }

    private static void orderOfRows() {
        s.says(25, ORDER);
        no(SOME, "no horse ahead of -11", x -> x.homes(0, 3, 0, 0), -1);
        no(SOME, "no yard ahead of -11", x -> x.homes(0, 0, 21, 0), -1);
        no(SOME, "no such what ahead of -11", x -> x.homes(0, 0, 0, 2), -1);
        no(SOME, "no horse ahead of -12", x -> x.homes(1, -1, 0, 0), -1);
        no(SOME, "no yard ahead of -12", x -> x.homes(1, 0, -1, 0), -1);
        no(SOME, "no such what ahead of -12", x -> x.homes(1, 0, 0, -1), -1);
        s.says(26, ORDER);
        no(SOME, "no horse ahead of -11", x -> x.whatIs(0, 3, 0, 0), -1);
        no(SOME, "no yard ahead of -11", x -> x.whatIs(0, 0, 21, 0), -1);
        no(SOME, "no such what ahead of -11", x -> x.whatIs(0, 0, 0, 2), -1);
        no(SOME, "no horse ahead of -12", x -> x.whatIs(1, -1, 0, 0), -1);
        no(SOME, "no yard ahead of -12", x -> x.whatIs(1, 0, -1, 0), -1);
        no(SOME, "no such what ahead of -12", x -> x.whatIs(1, 0, 0, -1), -1);
        s.says(30, ORDER);
        no(SOME, "-1 of forged", x -> x.forged(-1), -1);
        s.says(31, ORDER);
        no(SOME, "-1 of judge", x -> x.judge(8), -1);
    }

    private static void orderOfShelves() {
        s.says(37, ORDER);
        no(SOME, "no shelf ahead of -14", x -> x.row(8, 0, -1), -1);
        no(SOME, "no sort ahead of -14", x -> x.row(2, 3, -1), -1);
        no(SOME, "no sort below ahead of -14", x -> x.row(2, -1, Made.MIN), -1);
        s.says(38, ORDER);
        no(SOME, "-11 ahead of -13", x -> x.put(0, -1, 1), -11);
        no(SOME, "-12 ahead of -13", x -> x.put(1, 100, 1), -12);
        no(SOME, "no shelf ahead of -13", x -> x.put(-1, -1, 1), -1);
        s.says(40, ORDER);
        no(SOME, "no such other shelf ahead of -11", x -> x.copy(0, 0, 8, 0, 1), -1);
        no(SOME, "no such other shelf ahead of -12", x -> x.copy(1, 0, -1, 0, 1), -1);
        no(SOME, "no such shelf ahead of the other's -11", x -> x.copy(8, 0, 0, 0, 1), -1);
        no(SOME, "the other's -11 ahead of -12", x -> x.copy(1, 0, 0, 0, 1), -11);
        no(SOME, "-11 ahead of the other's -12", x -> x.copy(0, 0, 1, 0, 1), -11);
        no(SOME, "-11 ahead of -13", x -> x.copy(0, -1, 2, 0, 1), -11);
        no(SOME, "-12 of two sorts ahead of -13", x -> x.copy(2, 0, 3, 0, 101), -12);
        no(SOME, "-12 of a kind ahead of -13", x -> x.copy(2, 0, 1, -1, -1), -12);
        s.says(36, "what = 0 nothing (the others do not matter)");
        for (int d = 0; d < 8; d++) {
            s.due("keep(" + d + ", 0, ..)", Made.some().keep(d, 0, Made.MIN, Made.MAX), 0);
        }
        HiredByLonging x = Made.some();
        x.keep(1, 0, 8, -1);
        s.due("a kind is gone", x.cost(1), -11);
        x.keep(2, 0, -1, 10);
        s.due("a row is gone", x.put(2, 0, 1), -11);
        x.keep(2, 0, 0, 0);
        s.due("nothing is nothing still", x.toss(2), -11);
    }

    private static void thrown() {
        s.says(39, "throws IllegalArgumentException, IllegalStateException");
        ToLongFunction<HiredByLonging> noShelf = x -> Check.elementOrThrown(x, 8, Made.MIN);
        no(EMPTY, "no such shelf ahead of no row", noShelf, 5000000001L);
        no(FULL, "no such shelf ahead of no place", noShelf, 5000000001L);
        no(EMPTY, "no row", x -> Check.elementOrThrown(x, 7, 0), 5000000002L);
        no(FULL, "a kind", x -> Check.elementOrThrown(x, 0, 0), 5000000002L);
        no(FULL, "behind the last one", x -> Check.elementOrThrown(x, 1, 100), 5000000002L);
        no(FULL, "before the first one", x -> Check.elementOrThrown(x, 1, -1), 5000000002L);
        no(FULL, "far behind", x -> Check.elementOrThrown(x, 1, Made.MAX), 5000000002L);
    }
}
