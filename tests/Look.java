import java.util.ArrayList;
import java.util.List;

/**
 * All that can be seen of an object, as a list of answers: the land, the shelves, and the image by
 * restoring it. A look changes what it looks at, so an object is looked at once, at its end.
 */
final class Look {
    private static final int[] PLACES = {-1, 0, 1, 3, 4, 5, 6, 98, 99, 100};

    private Look() {
    }

    static List<Long> at(HiredByLonging x) {
        List<Long> seen = new ArrayList<>();
        land(x, seen);
        for (int d = 0; d < 8; d++) {
            shelf(x, d, seen);
        }
        seen.add((long) x.restore());
        land(x, seen);
        return seen;
    }

    /** Where two looks differ first, in words. */
    static String first(List<Long> one, List<Long> other) {
        for (int i = 0; i < one.size(); i++) {
            if (!one.get(i).equals(other.get(i))) {
                return "look " + i + " is " + other.get(i) + ", without the call " + one.get(i);
            }
        }
        return "alike";
    }

    private static void land(HiredByLonging x, List<Long> seen) {
        for (int what = 0; what < 6; what++) {
            seen.add((long) x.count(what));
        }
        for (int h = 0; h < 7; h++) {
            for (int what = 0; what < 5; what++) {
                seen.add((long) x.horse(h, what));
            }
        }
    }

    private static void shelf(HiredByLonging x, int d, List<Long> seen) {
        seen.add((long) x.cost(d));
        seen.add((long) x.toss(d));
        for (int i : PLACES) {
            seen.add(Check.elementOrThrown(x, d, i));
        }
        // What it keeps of a great number tells the sort of a row.
        seen.add((long) x.put(d, 0, 1234567));
        seen.add(Check.elementOrThrown(x, d, 0));
    }
}
