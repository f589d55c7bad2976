/** Objects as the tests of boundary cases want them: empty, with some on them, and full. */
final class Made {
    static final int MIN = -2147483648;
    static final int MAX = 2147483647;

    private Made() {
    }

    static HiredByLonging empty() {
        return new HiredByLonging();
    }

    /**
     * Three horses and one shelf of each sort: 0 holds nothing, 1 a drowned one, 2 bytes, 3 shorts,
     * 4 ints, 5 no bytes, 6 three bytes, 7 a content one. The image tells another land than now.
     */
    static HiredByLonging some() {
        HiredByLonging x = Check.of("h030510;h640902;h570620;o17;d05;l033;");
        x.image();
        x.days(3);
        x.taken(1, 4);
        x.hangs(6);
        x.keep(0, 0, 0, 0);
        x.keep(1, 1, 4, 6);
        Check.list(x, 2, 0, 11, -12, 13, 14);
        Check.list(x, 3, 1, 2100, -2200, 2300, 2400, 2500);
        Check.list(x, 4, 2, 310000, -320000, 330000, 340000, 350000, 360000);
        x.row(5, 0, 0);
        Check.list(x, 6, 0, 1, 2, 3);
        x.keep(7, 1, 1, 5);
        return x;
    }

    /** Seven horses with longing 99 on the last day, shelves of a hundred elements, an image. */
    static HiredByLonging full() {
        HiredByLonging x = new HiredByLonging();
        for (int h = 0; h < 7; h++) {
            x.keep(0, 1, h, 9);
            x.comes(0, 20 - h, 2 * h);
        }
        x.image();
        lastDay(x, 0);
        for (int h = 0; h < 7; h++) {
            x.longs(h, 99);
        }
        x.hangs(20);
        for (int sort = 0; sort < 3; sort++) {
            x.row(sort + 1, sort, 100);
            x.put(sort + 1, 0, MIN + 5);
            x.put(sort + 1, 99, 77 + sort);
        }
        return x;
    }

    /** Lets the days go by till so many are left up to day 999. */
    static HiredByLonging lastDay(HiredByLonging x, int left) {
        while (x.count(2) + 60 <= 999 - left) {
            x.days(60);
        }
        if (x.count(2) < 999 - left) {
            x.days(999 - left - x.count(2));
        }
        return x;
    }
}
