import java.util.Arrays;

/**
 * Every call with all mixtures of numbers at and beyond the edges, on a new object, on one with
 * horses and on a full one, against the model: nothing is thrown that the document doesn't name,
 * refusals come in its order, and what is refused changes nothing.
 */
public final class EdgesTest {
    private static final int[] EDGES = {-2147483648, -1, 0, 1, 2, 7, 20, 21, 2147483647};
    private static final int MOST_CALLS = 512;
    private static final int LOOK = 63;
    private static final Check CHECK = new Check();

    private HiredByLonging x;
    private ModelFace model;
    private int calls;
    private final int horses;

    private EdgesTest(int horses) {
        this.horses = horses;
    }

    public static void main(String[] args) {
        for (int horses : new int[] {0, 3, 7}) {
            for (int call = 0; call < ModelFace.CALLS.length; call++) {
                new EdgesTest(horses).all(call);
            }
        }
        CHECK.end("EdgesTest");
    }

    private void all(int call) {
        int[] a = new int[ModelFace.ARGUMENTS[call]];
        int mixtures = 1;
        for (int k = 0; k < a.length; k++) {
            mixtures *= EDGES.length;
        }
        begin();
        for (int i = 0; i < mixtures; i++) {
            int rest = i;
            for (int k = 0; k < a.length; k++) {
                a[k] = EDGES[rest % EDGES.length];
                rest /= EDGES.length;
            }
            if (calls > MOST_CALLS - LOOK) {
                look();
                begin();
            }
            both(call, a);
        }
        look();
    }

    private void both(int call, int... a) {
        calls++;
        long want = model.answer(call, a);
        CHECK.due(horses + " horses: " + ModelFace.CALLS[call] + Arrays.toString(a),
                ModelFace.ask(x, call, a), want);
    }

    private void begin() {
        x = new HiredByLonging();
        model = new ModelFace();
        calls = 0;
        for (int h = 0; h < horses; h++) {
            both(34, 1, 1, (3 * h + 2) % 8, h);
            both(2, 1, 5 * h % 21, 7 * h % 21);
            both(5, h, 9 * h);
        }
        if (horses == 7) {
            both(31);
            both(7, 60);
        }
        both(35, 2, 2, 8);
        both(36, 2, 1, -2147483648);
        both(36, 2, 3, 20);
        both(35, 0, 0, 4);
        both(36, 0, 0, 'o');
        both(36, 0, 1, '2');
        both(36, 0, 2, '0');
        both(36, 0, 3, ';');
        both(35, 7, 2, 21);
    }

    private void look() {
        for (int what = 0; what < 6; what++) {
            both(33, what);
        }
        for (int h = 0; h < 7; h++) {
            for (int what = 0; what < 8; what++) {
                both(1, h, what);
            }
        }
        both(32);
    }
}
