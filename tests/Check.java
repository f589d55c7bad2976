/** What the tests share: due answers, texts put on shelves. */
final class Check {
    private int passed = 0;
    private int failed = 0;

    void due(String call, long got, long want) {
        if (got == want) {
            passed++;
            return;
        }
        failed++;
        if (failed <= 40) {
            System.out.println(call + " answered " + got + ", due is " + want);
        }
    }

    /** Ends the run: what has passed and failed, and exit code 1 if something failed. */
    void end(String name) {
        System.out.println(name + ": " + passed + " answers as due, " + failed + " not");
        if (failed != 0) {
            System.exit(1);
        }
    }

    /** 0 if element answers, 1 if it throws IllegalArgumentException, 2 IllegalStateException. */
    static int thrownByElement(HiredByLonging x, int d, int i) {
        try {
            x.element(d, i);
            return 0;
        } catch (IllegalArgumentException e) {
            return 1;
        } catch (IllegalStateException e) {
            return 2;
        }
    }

    /** What element answers, or 5000000000 and 1 or 2 more as above for what it throws. */
    static long elementOrThrown(HiredByLonging x, int d, int i) {
        int thrown = thrownByElement(x, d, i);
        return thrown == 0 ? x.element(d, i) : 5000000000L + thrown;
    }

    static void write(HiredByLonging x, int d, String text) {
        x.row(d, 0, text.length());
        for (int i = 0; i < text.length(); i++) {
            x.put(d, i, text.charAt(i));
        }
    }

    static int land(HiredByLonging x, String text) {
        write(x, 0, text);
        return x.land(0);
    }

    /** A new object with a land on it. */
    static HiredByLonging of(String text) {
        HiredByLonging x = new HiredByLonging();
        int answer = land(x, text);
        if (answer < 0) {
            throw new IllegalStateException("the test's own text is refused: " + text + " " + answer);
        }
        return x;
    }

    static void list(HiredByLonging x, int d, int sort, int... values) {
        x.row(d, sort, values.length);
        for (int i = 0; i < values.length; i++) {
            x.put(d, i, values[i]);
        }
    }
}
