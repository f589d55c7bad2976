/** A road with horses on it that are hired by how much they want to go home. */
public final class HiredByLonging {
    private static final int YARDS = 21;
    private static final int LAST_YARD = 20;
    private static final int MOST_HORSES = 7;
    private static final int KINDS = 8;
    private static final int FIGURES = 10;
    private static final int MOST_LONGING = 99;
    private static final int LAST_DAY = 999;
    private static final int MOST_DAYS = 60;
    private static final int MOST_RIDE = 20;
    private static final int MOST_AHEAD = 30;
    private static final int MOST_PACE = 60;
    private static final int MOST_STORM = 7;
    private static final int MOST_ODDS = 20;
    private static final int MOST_LANDS = 20;
    private static final int DAYS_OF_A_LAND = 10;
    private static final int CHAINED = 3;
    private static final int COURIER_WAITS = 5;
    private static final int SHELVES = 8;
    private static final int MOST_ELEMENTS = 100;

    private static final int BYTES = 0;
    private static final int SHORTS = 1;
    private static final int INTS = 2;

    private static final int HOLDS_NOTHING = 0;
    private static final int HOLDS_KIND = 1;
    private static final int HOLDS_ROW = 2;

    private static final int NO_SUCH = -1;
    private static final int NO_ROOM = -2;
    private static final int NOT_SO = -3;
    private static final int NONE = -4;
    private static final int NOTHING_HELD = -11;
    private static final int OTHER_KIND = -12;
    private static final int NO_PLACE = -13;
    private static final int BELOW_ZERO = -14;
    private static final int NO_FAILURE = -15;
    private static final int NO_FAULT = -1;
    private static final int FAULT_OF_BYTES = -1000;
    private static final int FAULT_OF_STATEMENTS = -2000;
    private static final long REFUSED_LONG = 1000000000L;

    /** More days than any chain can take, so that it stands for "there is no chain". */
    private static final int NEVER = 1000;

    private final Horse[] kinds;
    private final Land now;
    private final Land image;
    /** Lands in mind: what is there behind 0, 1, .. horses of a chain; all else uses the first. */
    private final Land[] minds;
    private final Steed one;
    private final Shelf[] shelves;
    private boolean imageTaken;

    public HiredByLonging() {
        kinds = new Horse[] {
            new Horse(), new Content(), new Blind(), new Two(),
            new Drowned(), new Foal(), new Mare(), new Gelding()
        };
        now = new Land(kinds);
        image = new Land(kinds);
        minds = new Land[CHAINED + 1];
        for (int i = 0; i <= CHAINED; i++) {
            minds[i] = new Land(kinds);
        }
        one = new Steed(kinds[0]);
        shelves = new Shelf[SHELVES];
        for (int d = 0; d < SHELVES; d++) {
            shelves[d] = new Shelf(kinds[0]);
        }
        imageTaken = false;
    }

    // ---- the land as told

    public int land(int d) {
        int refusal = refusalOfRow(d);
        if (refusal != 0) {
            return refusal;
        }
        Shelf text = shelves[d];
        if (text.sort != BYTES) {
            return OTHER_KIND;
        }
        int lack = placeOfLack(text);
        if (lack != NO_FAULT) {
            return FAULT_OF_BYTES - lack;
        }
        Land mind = minds[0];
        mind.become(now);
        int statements = 0;
        for (int i = 0; i < text.size; i += digitsBehind(text.elements[i]) + 2) {
            if (!mind.follow(text, i)) {
                return FAULT_OF_STATEMENTS - i;
            }
            statements++;
        }
        now.become(mind);
        return statements;
    }

    public int horse(int h, int what) {
        if (!isHorse(h)) {
            return NO_SUCH;
        }
        Steed steed = now.steeds[h];
        switch (what) {
            case 0: return steed.kind.number();
            case 1: return steed.figure;
            case 2: return steed.home;
            case 3: return steed.at;
            case 4: return steed.longing;
            case 5: return steed.goal(now.oats);
            case 6: return steed.pace();
            case 7: return steed.kind.walk();
            default: return NO_SUCH;
        }
    }

    public int comes(int d, int home, int at) {
        if (!isYard(home) || !isYard(at)) {
            return NO_SUCH;
        }
        int refusal = refusalOfKind(d);
        if (refusal != 0) {
            return refusal;
        }
        int number = now.horses;
        return now.gets(shelves[d].kind, shelves[d].figure, home, at) ? number : NO_ROOM;
    }

    public int rides(int h, int yard) {
        if (!isHorse(h) || !isYard(yard)) {
            return NO_SUCH;
        }
        if (!now.hasDays(daysOfRide(now.steeds[h], yard))) {
            return NOT_SO;
        }
        return now.ride(h, yard);
    }

    public int taken(int h, int yard) {
        if (!isHorse(h) || !isYard(yard)) {
            return NO_SUCH;
        }
        int before = now.steeds[h].at;
        now.steeds[h].at = yard;
        return before;
    }

    public int longs(int h, int v) {
        if (!isHorse(h) || !isWithin(v, 0, MOST_LONGING)) {
            return NO_SUCH;
        }
        int before = now.steeds[h].longing;
        now.steeds[h].longing = v;
        return before;
    }

    public int hangs(int yard) {
        if (!isYard(yard)) {
            return NO_SUCH;
        }
        int before = now.oats;
        now.oats = yard;
        return before;
    }

    public int days(int n) {
        if (!isWithin(n, 1, MOST_DAYS)) {
            return NO_SUCH;
        }
        if (!now.hasDays(n)) {
            return NOT_SO;
        }
        now.pass(n);
        return now.allLonging();
    }

    // ---- rides in mind

    public int howLong(int h, int yard) {
        if (!isHorse(h) || !isYard(yard)) {
            return NO_SUCH;
        }
        return daysOfRide(now.steeds[h], yard);
    }

    public int behind(int h, int n, int what) {
        if (!isHorse(h) || !isWithin(n, 0, MOST_DAYS) || !isEither(what)) {
            return NO_SUCH;
        }
        one.become(now.steeds[h]);
        one.stay(n, now.oats);
        return what == 0 ? one.longing : one.pace();
    }

    public int chain(int from, int to, int what) {
        if (!isYard(from) || !isYard(to) || !isEither(what)) {
            return NO_SUCH;
        }
        if (from == to) {
            return what == 0 ? 0 : NONE;
        }
        minds[0].become(now);
        int least = NEVER;
        int first = NONE;
        for (int h = 0; h < now.horses; h++) {
            int n = now.steeds[h].at == from ? chainWith(minds, 0, h, to, 1 << h) : NEVER;
            if (n < least) {
                least = n;
                first = h;
            }
        }
        if (least >= NEVER) {
            return NONE;
        }
        return what == 0 ? least : first;
    }

    public int hurry(int yard, int what) {
        if (!isYard(yard) || !isEither(what)) {
            return NO_SUCH;
        }
        int first = NONE;
        int least = NEVER;
        for (int h = 0; h < now.horses; h++) {
            int n = daysOfRide(now.steeds[h], yard);
            if (n < least) {
                least = n;
                first = h;
            }
        }
        if (first == NONE) {
            return NONE;
        }
        return what == 0 ? first : least;
    }

    public int fastest(int n) {
        if (!isWithin(n, 0, MOST_DAYS)) {
            return NO_SUCH;
        }
        int first = NONE;
        int most = 0;
        for (int h = 0; h < now.horses; h++) {
            one.become(now.steeds[h]);
            one.stay(n, now.oats);
            if (one.pace() > most) {
                most = one.pace();
                first = h;
            }
        }
        return first;
    }

    public int away() {
        int bits = 0;
        for (int h = 0; h < now.horses; h++) {
            if (!now.steeds[h].rests(now.oats)) {
                bits |= 1 << h;
            }
        }
        return bits;
    }

    public int ripe(int h, int v) {
        if (!isHorse(h) || !isWithin(v, 1, MOST_PACE)) {
            return NO_SUCH;
        }
        one.become(now.steeds[h]);
        for (int n = 0; n <= MOST_DAYS; n++) {
            if (one.pace() >= v) {
                return n;
            }
            one.stay(1, now.oats);
        }
        return NONE;
    }

    public int leastLonging(int h, int yard, int n) {
        if (!isHorse(h) || !isYard(yard) || !isWithin(n, 0, MOST_RIDE)) {
            return NO_SUCH;
        }
        for (int v = 0; v <= MOST_LONGING; v++) {
            one.become(now.steeds[h]);
            one.longing = v;
            if (one.ride(yard, now.oats) <= n) {
                return v;
            }
        }
        return NONE;
    }

    public int soonest(int h, int yard, int what) {
        if (!isHorse(h) || !isYard(yard) || !isEither(what)) {
            return NO_SUCH;
        }
        int best = 0;
        int least = NEVER;
        for (int w = 0; w <= MOST_AHEAD; w++) {
            int n = daysOfLaterRide(now.steeds[h], w, yard);
            if (n < least) {
                least = n;
                best = w;
            }
        }
        return what == 0 ? best : least;
    }

    public int race(int a, int b, int yard) {
        if (!isHorse(a) || !isHorse(b) || a == b || !isYard(yard)) {
            return NO_SUCH;
        }
        int daysOfA = daysOfRide(now.steeds[a], yard);
        int daysOfB = daysOfRide(now.steeds[b], yard);
        if (daysOfA == daysOfB) {
            return NONE;
        }
        return daysOfA < daysOfB ? a : b;
    }

    public int walkAhead(int h, int yard, int n, int what) {
        if (!isHorse(h) || !isYard(yard) || !isWithin(n, 0, MOST_AHEAD) || !isEither(what)) {
            return NO_SUCH;
        }
        int best = 0;
        int least = NEVER;
        for (int y = 0; y < YARDS; y++) {
            one.become(now.steeds[h]);
            one.at = y;
            one.stay(n, now.oats);
            int days = one.ride(yard, now.oats);
            if (days < least) {
                least = days;
                best = y;
            }
        }
        return what == 0 ? best : least;
    }

    public int hang(int n, int what) {
        if (!isWithin(n, 0, MOST_DAYS) || !isEither(what)) {
            return NO_SUCH;
        }
        Land mind = minds[0];
        int best = 0;
        int most = -1;
        for (int y = 0; y < YARDS; y++) {
            mind.become(now);
            mind.oats = y;
            mind.pass(n);
            if (mind.allLonging() > most) {
                most = mind.allLonging();
                best = y;
            }
        }
        return what == 0 ? best : most;
    }

    public int meet(int what) {
        if (!isEither(what)) {
            return NO_SUCH;
        }
        int best = 0;
        int least = NEVER;
        for (int y = 0; y < YARDS; y++) {
            int together = 0;
            for (int h = 0; h < now.horses; h++) {
                together += daysOfRide(now.steeds[h], y);
            }
            if (together < least) {
                least = together;
                best = y;
            }
        }
        return what == 0 ? best : least;
    }

    public int spread() {
        int best = NONE;
        int most = -1;
        for (int a = 0; a < now.horses; a++) {
            for (int b = a + 1; b < now.horses; b++) {
                int apart = Math.abs(now.steeds[a].at - now.steeds[b].at);
                if (apart > most) {
                    most = apart;
                    best = 10 * a + b;
                }
            }
        }
        return best;
    }

    public int fees(int h, int yard) {
        if (!isYard(yard) || h != -1 && !isHorse(h)) {
            return NO_SUCH;
        }
        if (h >= 0) {
            return feesOf(now.steeds[h], yard);
        }
        int first = NONE;
        int least = 0;
        for (int i = 0; i < now.horses; i++) {
            int fees = feesOf(now.steeds[i], yard);
            if (first == NONE || fees < least) {
                least = fees;
                first = i;
            }
        }
        return first;
    }

    // ---- homes, what it is

    public int homes(int d, int h, int yard, int what) {
        if (!isHorse(h) || !isYard(yard) || !isEither(what)) {
            return NO_SUCH;
        }
        int refusal = refusalOfRow(d);
        if (refusal != 0) {
            return refusal;
        }
        int bits = 0;
        for (int home = 0; home < YARDS; home++) {
            one.become(now.steeds[h]);
            one.home = home;
            if (isTold(one, shelves[d], yard)) {
                bits |= 1 << home;
            }
        }
        return what == 0 ? bits : Integer.bitCount(bits);
    }

    public int whatIs(int d, int h, int yard, int what) {
        if (!isHorse(h) || !isYard(yard) || !isEither(what)) {
            return NO_SUCH;
        }
        int refusal = refusalOfRow(d);
        if (refusal != 0) {
            return refusal;
        }
        return what == 0 ? kindsTold(shelves[d], h, yard) : figuresTold(shelves[d], h, yard);
    }

    public int two(int a, int b, int yard) {
        if (!isHorse(a) || !isHorse(b) || a == b || !isYard(yard)) {
            return NO_SUCH;
        }
        for (int pair = 0; pair < 4; pair++) {
            int ofA = pair / 2;
            int ofB = pair % 2;
            if (isBest(a, ofA, b, ofB, yard) && isBest(b, ofB, a, ofA, yard)) {
                return 10 * ofA + ofB;
            }
        }
        return NONE;
    }

    public long storm(int h, int v, int n, int t, int part) {
        if (!isHorse(h) || !isWithin(v, 1, MOST_PACE) || !isWithin(n, 0, MOST_STORM)
                || !isWithin(t, 2, MOST_ODDS) || !isEither(part)) {
            return REFUSED_LONG - NO_SUCH;
        }
        long above = 0;
        long below = 1;
        long ways = 1;
        one.become(now.steeds[h]);
        // It waits where it is, so its LONGING hangs on how many days are calm, not on which.
        for (int calm = 0; calm <= n; calm++) {
            if (one.pace() >= v) {
                above += ways;
            }
            ways = ways * (n - calm) * (t - 1) / (calm + 1);
            one.stay(1, now.oats);
        }
        for (int i = 0; i < n; i++) {
            below *= t;
        }
        return partOf(above, below, part);
    }

    public long mean(int part) {
        if (!isEither(part)) {
            return REFUSED_LONG - NO_SUCH;
        }
        return partOf(now.allLonging(), Math.max(1, now.horses), part);
    }

    // ---- told chains, lands by seeds

    public int forged(int d) {
        int refusal = refusalOfRow(d);
        if (refusal != 0) {
            return refusal;
        }
        Shelf row = shelves[d];
        if (row.size % 2 != 0) {
            return NO_PLACE;
        }
        Land mind = minds[0];
        mind.become(now);
        int courier = -1;
        for (int i = 0; i + 1 < row.size; i += 2) {
            int h = row.elements[i];
            int yard = row.elements[i + 1];
            if (!isHorse(h) || !isYard(yard) || i > 0 && mind.steeds[h].at != courier) {
                return i / 2;
            }
            mind.ride(h, yard);
            courier = yard;
        }
        return NONE;
    }

    public int judge(int d) {
        int refusal = refusalOfRow(d);
        if (refusal != 0) {
            return refusal;
        }
        Land mind = minds[0];
        mind.become(now);
        for (int i = 0; i < shelves[d].size; i++) {
            if (!shelves[d].tells(i, mind.allLonging())) {
                return i;
            }
            mind.pass(1);
        }
        return NONE;
    }

    public int lands(int n, int z, int what) {
        if (!isWithin(n, 1, MOST_LANDS) || !isEither(what)) {
            return NO_SUCH;
        }
        Land mind = minds[0];
        int seed = z;
        int longing = 0;
        int resting = 0;
        for (int i = 0; i < n; i++) {
            mind.become(now);
            for (int h = 0; h < mind.horses; h++) {
                seed = seed * 1103515245 + 12345;
                mind.steeds[h].at = (seed & 0x7fffffff) / 65536 % YARDS;
            }
            mind.pass(DAYS_OF_A_LAND);
            longing += mind.allLonging();
            resting += mind.allResting();
        }
        return what == 0 ? longing : resting;
    }

    // ---- the image, what is told

    public int image() {
        image.become(now);
        imageTaken = true;
        return now.day;
    }

    public int restore() {
        if (!imageTaken) {
            return NOT_SO;
        }
        now.become(image);
        return now.day;
    }

    public int count(int what) {
        switch (what) {
            case 0: return now.horses;
            case 1: return now.oats;
            case 2: return now.day;
            case 3: return now.allLonging();
            case 4: return now.allResting();
            case 5: return now.allPace();
            default: return NO_SUCH;
        }
    }

    // ---- shelves

    public int keep(int d, int what, int k, int figure) {
        if (!isShelf(d) || !isEither(what)) {
            return NO_SUCH;
        }
        if (what == 0) {
            shelves[d].holds = HOLDS_NOTHING;
            return 0;
        }
        if (!isKind(k) || !isWithin(figure, 0, FIGURES - 1)) {
            return NO_SUCH;
        }
        shelves[d].holds = HOLDS_KIND;
        shelves[d].kind = kinds[k];
        shelves[d].figure = figure;
        return 0;
    }

    public int row(int d, int sort, int n) {
        if (!isShelf(d) || !isWithin(sort, BYTES, INTS) || n > MOST_ELEMENTS) {
            return NO_SUCH;
        }
        if (n < 0) {
            return BELOW_ZERO;
        }
        shelves[d].getRow(sort, n);
        return 0;
    }

    public int put(int d, int i, int v) {
        int refusal = refusalOfRow(d);
        if (refusal != 0) {
            return refusal;
        }
        if (!isWithin(i, 0, shelves[d].size - 1)) {
            return NO_PLACE;
        }
        shelves[d].set(i, v);
        return 0;
    }

    public long element(int d, int i) throws IllegalArgumentException, IllegalStateException {
        if (!isShelf(d)) {
            throw new IllegalArgumentException("no such shelf");
        }
        if (shelves[d].holds != HOLDS_ROW || !isWithin(i, 0, shelves[d].size - 1)) {
            throw new IllegalStateException("no row, or no such place in it");
        }
        return shelves[d].elements[i];
    }

    public int copy(int d, int i, int e, int j, int n) {
        if (!isShelf(d) || !isShelf(e)) {
            return NO_SUCH;
        }
        Shelf source = shelves[d];
        Shelf target = shelves[e];
        if (source.holds == HOLDS_NOTHING || target.holds == HOLDS_NOTHING) {
            return NOTHING_HELD;
        }
        if (source.holds != HOLDS_ROW || target.holds != HOLDS_ROW || source.sort != target.sort) {
            return OTHER_KIND;
        }
        if (!source.hasPlaces(i, n) || !target.hasPlaces(j, n)) {
            return NO_PLACE;
        }
        System.arraycopy(source.elements, i, target.elements, j, n);
        return n;
    }

    public int cost(int d) {
        int refusal = refusalOfKind(d);
        if (refusal != 0) {
            return refusal;
        }
        return shelves[d].kind.price(shelves[d].figure);
    }

    public int toss(int d) {
        int refusal = refusalOfKind(d);
        if (refusal != 0) {
            return refusal;
        }
        Horse kind = shelves[d].kind;
        int figure = shelves[d].figure;
        try {
            kind.fail(figure);
        } catch (IllegalArgumentException e) {
            return 200 + kind.price(figure);
        } catch (UnsupportedOperationException e) {
            return 100 + figure;
        } catch (IllegalStateException e) {
            return figure;
        }
        return NO_FAILURE;
    }

    // ---- what may be refused

    private static boolean isWithin(int v, int least, int most) {
        return v >= least && v <= most;
    }

    private static boolean isEither(int what) {
        return what == 0 || what == 1;
    }

    private static boolean isYard(int yard) {
        return isWithin(yard, 0, LAST_YARD);
    }

    private static boolean isKind(int k) {
        return isWithin(k, 0, KINDS - 1);
    }

    private static boolean isShelf(int d) {
        return isWithin(d, 0, SHELVES - 1);
    }

    private boolean isHorse(int h) {
        return isWithin(h, 0, now.horses - 1);
    }

    /** Why shelf d gives no row; 0 if it gives one. */
    private int refusalOfRow(int d) {
        return refusalOf(d, HOLDS_ROW);
    }

    /** Why shelf d gives no kind of horse; 0 if it gives one. */
    private int refusalOfKind(int d) {
        return refusalOf(d, HOLDS_KIND);
    }

    private int refusalOf(int d, int wanted) {
        if (!isShelf(d)) {
            return NO_SUCH;
        }
        if (shelves[d].holds == HOLDS_NOTHING) {
            return NOTHING_HELD;
        }
        return shelves[d].holds == wanted ? 0 : OTHER_KIND;
    }

    // ---- the text of a land

    /** The place of the first byte with which no land can go on; NO_FAULT if there is none. */
    private static int placeOfLack(Shelf text) {
        int i = 0;
        do {
            int digits = text.hasPlaces(i, 1) ? digitsBehind(text.elements[i]) : 0;
            if (digits == 0) {
                return i;
            }
            i++;
            for (int end = i + digits; i < end; i++) {
                if (!text.hasPlaces(i, 1) || !isWithin(text.elements[i], '0', '9')) {
                    return i;
                }
            }
            if (!text.hasPlaces(i, 1) || text.elements[i] != ';') {
                return i;
            }
            i++;
        } while (i < text.size);
        return NO_FAULT;
    }

    /** How many digits stand behind the letter of a statement; 0 if it is no such letter. */
    private static int digitsBehind(int letter) {
        switch (letter) {
            case 'h': return 6;
            case 'r': return 3;
            case 'l': return 3;
            case 'o': return 2;
            case 'd': return 2;
            default: return 0;
        }
    }

    // ---- in mind

    private int daysOfRide(Steed steed, int yard) {
        one.become(steed);
        return one.ride(yard, now.oats);
    }

    /** The days behind which it is there if it waits where it is first. */
    private int daysOfLaterRide(Steed steed, int waits, int yard) {
        one.become(steed);
        one.stay(waits, now.oats);
        return waits + one.ride(yard, now.oats);
    }

    /** The fewest days to a yard if the chain goes on with horse h; NEVER if it can't come there. */
    private static int chainWith(Land[] minds, int depth, int h, int to, int used) {
        if (depth >= CHAINED) {
            return NEVER;
        }
        int least = NEVER;
        Land then = minds[depth + 1];
        int from = minds[depth].steeds[h].at;
        for (int y = 0; y < YARDS; y++) {
            if (y == from) {
                continue;
            }
            then.become(minds[depth]);
            int n = then.ride(h, y);
            n += y == to ? 0 : chainOn(minds, depth + 1, y, to, used);
            least = Math.min(least, n);
        }
        return least;
    }

    /** The fewest days on from a yard with a horse that is not used yet; NEVER likewise. */
    private static int chainOn(Land[] minds, int depth, int from, int to, int used) {
        int least = NEVER;
        Land land = minds[depth];
        for (int h = 0; h < land.horses; h++) {
            if ((used >> h & 1) == 0 && land.steeds[h].at == from) {
                least = Math.min(least, chainWith(minds, depth, h, to, used | 1 << h));
            }
        }
        return least;
    }

    private int feesOf(Steed steed, int yard) {
        return steed.kind.price(steed.figure) * daysOfRide(steed, yard);
    }

    /** Whether a row tells where a horse in mind is on a ride; it is moved along. */
    private boolean isTold(Steed steed, Shelf row, int yard) {
        for (int i = 0; i < row.size; i++) {
            if (!row.tells(i, steed.at)) {
                return false;
            }
            if (steed.at != yard) {
                steed.move(yard, now.oats);
                steed.pine(now.oats);
            }
        }
        return true;
    }

    private int kindsTold(Shelf row, int h, int yard) {
        int bits = 0;
        for (int k = 0; k < KINDS; k++) {
            one.become(now.steeds[h]);
            one.kind = kinds[k];
            if (isTold(one, row, yard)) {
                bits |= 1 << k;
            }
        }
        return bits;
    }

    private int figuresTold(Shelf row, int h, int yard) {
        int bits = 0;
        for (int figure = 0; figure < FIGURES; figure++) {
            one.become(now.steeds[h]);
            one.figure = figure;
            if (isTold(one, row, yard)) {
                bits |= 1 << figure;
            }
        }
        return bits;
    }

    /** Whether a courier has no more by his other choice, the other courier's being as it is. */
    private boolean isBest(int mine, int choice, int other, int otherChoice, int yard) {
        int otherWay = 1 - choice;
        int theirs = daysOfLaterRide(now.steeds[other], otherChoice * COURIER_WAITS, yard);
        int chosen = daysOfLaterRide(now.steeds[mine], choice * COURIER_WAITS, yard);
        int unchosen = daysOfLaterRide(now.steeds[mine], otherWay * COURIER_WAITS, yard);
        return gain(chosen, theirs, choice) >= gain(unchosen, theirs, otherWay);
    }

    private static int gain(int mine, int theirs, int choice) {
        return (mine < theirs ? 3 : 0) + choice;
    }

    /** A part of a fraction (below is 1 or more) in least terms. */
    private static long partOf(long above, long below, int part) {
        long divisor = below;
        long rest = above;
        // Each two rounds halve the rest at least, so that a long needs fewer than 130 rounds.
        for (int i = 0; i < 130 && rest != 0; i++) {
            long next = divisor % rest;
            divisor = rest;
            rest = next;
        }
        if (divisor == 0) {
            return 0;
        }
        return part == 0 ? above / divisor : below / divisor;
    }

    // ---- what the kinds are

    private static class Horse {
        int number() {
            return 0;
        }

        int goal(int home, int at, int oats) {
            return home;
        }

        int pines(int figure, int miles) {
            return 1 + miles / 5;
        }

        int pace(int figure, int longing) {
            return 1 + longing / 4;
        }

        int walk() {
            return 1;
        }

        int price(int figure) {
            return 2;
        }

        void fail(int figure) {
            if (figure != 0) {
                throw new IllegalStateException("a horse fails");
            }
        }
    }

    private static class Content extends Horse {
        int number() {
            return 1;
        }

        int goal(int home, int at, int oats) {
            return at;
        }

        int pines(int figure, int miles) {
            return 0;
        }

        int pace(int figure, int longing) {
            return 2;
        }

        int walk() {
            return 2;
        }

        int price(int figure) {
            return 1;
        }

        void fail(int figure) {
            // A content one, and what is under it, has no failure.
        }
    }

    private static final class Blind extends Horse {
        int number() {
            return 2;
        }

        int goal(int home, int at, int oats) {
            return LAST_YARD - home;
        }

        int pines(int figure, int miles) {
            return 2 * super.pines(figure, miles);
        }

        int pace(int figure, int longing) {
            return 1 + longing / 2;
        }

        int price(int figure) {
            return super.price(figure) + figure;
        }
    }

    private static class Two extends Horse {
        int number() {
            return 3;
        }

        int goal(int home, int at, int oats) {
            int other = LAST_YARD - home;
            return Math.abs(other - at) < Math.abs(home - at) ? other : home;
        }

        int price(int figure) {
            return 2 * super.price(figure);
        }

        void fail(int figure) {
            if (figure != 0) {
                throw new UnsupportedOperationException("a horse of two homes fails");
            }
        }
    }

    private static final class Drowned extends Horse {
        int number() {
            return 4;
        }

        int pines(int figure, int miles) {
            return super.pines(figure, miles) + figure;
        }

        int price(int figure) {
            return 7;
        }
    }

    private static final class Foal extends Horse {
        int number() {
            return 5;
        }

        int goal(int home, int at, int oats) {
            return oats;
        }

        int pines(int figure, int miles) {
            return super.pines(figure, miles) + figure / 2;
        }

        int pace(int figure, int longing) {
            return super.pace(figure, longing) + 1;
        }

        int price(int figure) {
            return super.price(figure) - 1;
        }
    }

    private static final class Mare extends Two {
        int number() {
            return 6;
        }

        int goal(int home, int at, int oats) {
            int other = LAST_YARD - home;
            return Math.abs(other - at) > Math.abs(home - at) ? other : home;
        }

        int pines(int figure, int miles) {
            return super.pines(figure, miles) + 1;
        }

        int pace(int figure, int longing) {
            return super.pace(figure, longing) + figure / 3;
        }

        int walk() {
            return 2;
        }

        int price(int figure) {
            return super.price(figure) + figure;
        }

        void fail(int figure) {
            if (figure != 0) {
                throw new IllegalArgumentException("a mare fails");
            }
        }
    }

    private static final class Gelding extends Content {
        int number() {
            return 7;
        }

        int pace(int figure, int longing) {
            return super.pace(figure, longing) + 1;
        }

        int walk() {
            return 3;
        }

        int price(int figure) {
            return super.price(figure) + 3;
        }
    }

    // ---- what there is

    /** One horse, in a land or in mind. */
    private static final class Steed {
        private Horse kind;
        private int figure;
        private int home;
        private int at;
        private int longing;

        Steed(Horse kind) {
            this.kind = kind;
        }

        void become(Steed other) {
            kind = other.kind;
            figure = other.figure;
            home = other.home;
            at = other.at;
            longing = other.longing;
        }

        int goal(int oats) {
            return kind.goal(home, at, oats);
        }

        int pace() {
            return kind.pace(figure, longing);
        }

        boolean rests(int oats) {
            return at == goal(oats);
        }

        /** What a day that goes by does to it. */
        void pine(int oats) {
            int miles = Math.abs(kind.goal(home, at, oats) - at);
            longing = miles == 0
                    ? longing / 2
                    : Math.min(MOST_LONGING, longing + kind.pines(figure, miles));
        }

        void stay(int n, int oats) {
            for (int i = 0; i < n; i++) {
                pine(oats);
            }
        }

        /** The way of one day of a ride, without the day that goes by then. */
        void move(int yard, int oats) {
            int way = Integer.compare(yard, at);
            int milesToGoal = way * (kind.goal(home, at, oats) - at);
            int most = milesToGoal > 0
                    ? Math.min(kind.pace(figure, longing), milesToGoal)
                    : kind.walk();
            at += way * Math.min(most, Math.abs(yard - at));
        }

        int ride(int yard, int oats) {
            int n = 0;
            while (at != yard && n < YARDS) {
                move(yard, oats);
                pine(oats);
                n++;
            }
            return n;
        }
    }

    /** All that there is but the shelves and the image; now, as it was, or in mind. */
    private static final class Land {
        private final Horse[] kinds;
        private final Steed[] steeds;
        private int horses;
        private int oats;
        private int day;

        Land(Horse[] kinds) {
            this.kinds = kinds;
            steeds = new Steed[MOST_HORSES];
            for (int h = 0; h < MOST_HORSES; h++) {
                steeds[h] = new Steed(kinds[0]);
            }
        }

        void become(Land other) {
            horses = other.horses;
            oats = other.oats;
            day = other.day;
            for (int h = 0; h < horses; h++) {
                steeds[h].become(other.steeds[h]);
            }
        }

        boolean gets(Horse kind, int figure, int home, int at) {
            if (horses >= MOST_HORSES) {
                return false;
            }
            Steed steed = steeds[horses];
            steed.kind = kind;
            steed.figure = figure;
            steed.home = home;
            steed.at = at;
            steed.longing = 0;
            horses++;
            return true;
        }

        boolean hasDays(int n) {
            return day + n <= LAST_DAY;
        }

        void pass(int n) {
            day += n;
            for (int h = 0; h < horses; h++) {
                for (int i = 0; i < n; i++) {
                    steeds[h].pine(oats);
                }
            }
        }

        int ride(int h, int yard) {
            int n = 0;
            while (steeds[h].at != yard && n < YARDS) {
                steeds[h].move(yard, oats);
                pass(1);
                n++;
            }
            return n;
        }

        int allLonging() {
            int sum = 0;
            for (int h = 0; h < horses; h++) {
                sum += steeds[h].longing;
            }
            return sum;
        }

        int allPace() {
            int sum = 0;
            for (int h = 0; h < horses; h++) {
                sum += steeds[h].pace();
            }
            return sum;
        }

        int allResting() {
            int n = 0;
            for (int h = 0; h < horses; h++) {
                n += steeds[h].rests(oats) ? 1 : 0;
            }
            return n;
        }

        /**
         * Does the statement whose letter stands in place i of a text without lack, if it can.
         * A ride is refused behind it only: who asks has this land in mind and throws it away.
         */
        boolean follow(Shelf text, int i) {
            int h = text.digit(i + 1);
            switch (text.elements[i]) {
                case 'h': return followHorse(text, i);
                case 'o': return followOats(text.number(i + 1));
                case 'd': return followDays(text.number(i + 1));
                case 'l': return followLonging(h, text.number(i + 2));
                default: break;
            }
            int yard = text.number(i + 2);
            if (h >= horses || !isYard(yard)) {
                return false;
            }
            ride(h, yard);
            return hasDays(0);
        }

        private boolean followHorse(Shelf text, int i) {
            int k = text.digit(i + 1);
            int home = text.number(i + 3);
            int at = text.number(i + 5);
            return isKind(k) && isYard(home) && isYard(at)
                    && gets(kinds[k], text.digit(i + 2), home, at);
        }

        private boolean followOats(int yard) {
            if (!isYard(yard)) {
                return false;
            }
            oats = yard;
            return true;
        }

        private boolean followDays(int n) {
            if (!isWithin(n, 1, MOST_DAYS) || !hasDays(n)) {
                return false;
            }
            pass(n);
            return true;
        }

        private boolean followLonging(int h, int v) {
            if (h >= horses) {
                return false;
            }
            steeds[h].longing = v;
            return true;
        }
    }

    /** A shelf; its row is made once and used again. */
    private static final class Shelf {
        private int holds;
        private Horse kind;
        private int figure;
        private int sort;
        private int size;
        private final int[] elements;

        Shelf(Horse kind) {
            holds = HOLDS_NOTHING;
            this.kind = kind;
            elements = new int[MOST_ELEMENTS];
        }

        void getRow(int newSort, int newSize) {
            holds = HOLDS_ROW;
            sort = newSort;
            size = newSize;
            for (int i = 0; i < MOST_ELEMENTS; i++) {
                elements[i] = 0;
            }
        }

        void set(int i, int v) {
            if (sort == BYTES) {
                elements[i] = (byte) v;
            } else if (sort == SHORTS) {
                elements[i] = (short) v;
            } else {
                elements[i] = v;
            }
        }

        /** Whether n elements from i on are there (none behind the last one, too). */
        boolean hasPlaces(int i, int n) {
            return n >= 0 && i >= 0 && i <= size - n;
        }

        /** Whether element i tells this value, or nothing. */
        boolean tells(int i, int v) {
            return elements[i] == v || elements[i] == leastOfSort();
        }

        private int leastOfSort() {
            if (sort == BYTES) {
                return -128;
            }
            return sort == SHORTS ? -32768 : -2147483648;
        }

        int digit(int i) {
            return elements[i] - '0';
        }

        int number(int i) {
            return 10 * digit(i) + digit(i + 1);
        }
    }
}
