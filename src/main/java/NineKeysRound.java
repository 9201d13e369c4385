/** A works yard by night: posts with keys, a watchman's rounds and papers. See README.md. */
public final class NineKeysRound {
    public static final int BAD = -1, NOT = -2, FULL = -3, STATE = -5, VOID = -2000000000;

    private static final int NOTHING_THERE = -11, OTHER_KIND = -12, NO_PLACE = -13, SIZE_BELOW_ZERO = -14;
    private static final int SHELVES = 6, MOST_POSTS = 9;
    private static final int LAST_MINUTE = 999, LAST_HOUR = 15, LONGEST_NEED = 99;
    private static final int BEST_MINUTES = 600, TWELVE = 12, LATEST_SECOND = 99;
    private static final int MOST_TOURED = 7, MOST_FITTED = 6;
    private static final int FAULT_BASE = -100;
    private static final int NEVER = 0x7fffffff;
    private static final long NO_ELEMENT = 0x8000000000000000L;

    private final Yard yard = new Yard();
    private final Changes changes = new Changes();
    private final Law theLaw = new Law();
    private final Shelf[] shelves = new Shelf[SHELVES];
    private final Course forth = new Course(yard);
    private final Course backward = new Course(yard);
    private final Sightings sightings = new Sightings();
    private final Tour tour = new Tour(yard);
    private final Deed deed = new Deed();
    private final Deed kept = new Deed();
    private final Keys keys = new Keys();
    private final int[] free = new int[BEST_MINUTES];
    private final int[] widest = new int[LATEST_SECOND + 1];
    private final int[] order = new int[MOST_FITTED];
    private boolean hasImage;

    public NineKeysRound() {
        for (int i = 0; i < SHELVES; i++) {
            shelves[i] = new Shelf();
        }
    }

    // ---- posts

    public int post(int xy) {
        if (xy < 0 || !Yard.fits(Yard.X, xy % 100) || !Yard.fits(Yard.Y, xy / 100)) {
            return BAD;
        }
        if (yard.size >= MOST_POSTS) {
            return FULL;
        }
        return yard.add(xy % 100, xy / 100, 1);
    }

    public int posts(int shelf, int i, int n) {
        if (!isShelf(shelf) || n < 1 || n > MOST_POSTS) {
            return BAD;
        }
        Shelf from = shelves[shelf];
        int refusal = from.refusalFor(Shelf.BYTES);
        if (refusal == NOTHING_THERE) {
            return 0;
        }
        return refusal < 0 ? refusal : addPostsFrom(from, i, n);
    }

    private int addPostsFrom(Shelf from, int start, int n) {
        for (int came = 0; came < n; came++) {
            // As a long, a place near the greatest int cannot wrap to one that is there.
            long at = (long) start + 3L * came;
            if (at < 0 || at + 2 >= from.size || yard.size >= MOST_POSTS) {
                return came;
            }
            int x = (int) from.cellAt((int) at);
            int y = (int) from.cellAt((int) at + 1);
            int value = (int) from.cellAt((int) at + 2);
            if (!Yard.fits(Yard.X, x) || !Yard.fits(Yard.Y, y) || !Yard.fits(Yard.VALUE, value)) {
                return came;
            }
            yard.add(x, y, value);
        }
        return n;
    }

    public int mend(int number, int what, int v) {
        int place = yard.placeOf(number, what);
        if (place < 0 || !Yard.fits(what, v)) {
            return BAD;
        }
        int was = yard.told[place];
        if (was != v) {
            yard.told[place] = v;
            changes.note(place, was, v);
        }
        return was;
    }

    public int of(int number, int what) {
        if (what == Yard.DENTS) {
            return yard.isPost(number) ? deed.dented[number] : BAD;
        }
        int place = yard.placeOf(number, what);
        return place < 0 ? BAD : yard.told[place];
    }

    public int feed(int letter) {
        if (letter < 0 || letter > 255) {
            return BAD;
        }
        return theLaw.take(letter) ? theLaw.fed : FULL;
    }

    public int law() {
        int fault = theLaw.adopt();
        return fault < 0 ? 1 : FAULT_BASE - fault;
    }

    // ---- rounds

    public int round(int shelf, int what) {
        if (!isShelf(shelf) || !isEither(what)) {
            return BAD;
        }
        int refusal = layForth(shelf);
        if (refusal < 0) {
            return refusal;
        }
        return what == 0 ? forth.size : forth.period;
    }

    public int first(int shelf, int post) {
        if (!isShelf(shelf) || !yard.isPost(post)) {
            return BAD;
        }
        int refusal = layForth(shelf);
        if (refusal < 0) {
            return refusal;
        }
        int minute = forth.firstMinuteOf(post);
        return minute > LAST_MINUTE ? NOT : minute;
    }

    public int by(int shelf, int minute, int what) {
        if (!isShelf(shelf) || !isMinute(minute) || !isEither(what)) {
            return BAD;
        }
        int refusal = layForth(shelf);
        if (refusal < 0) {
            return refusal;
        }
        int dents = forth.dentsBy(minute);
        if (what == 1) {
            return dents;
        }
        return dents == 0 ? NOT : forth.stopOf(dents - 1);
    }

    public int unseen(int shelf, int post, int minute, int what) {
        if (!isShelf(shelf) || !yard.isPost(post) || !isMinute(minute) || !isEither(what)) {
            return BAD;
        }
        int refusal = layForth(shelf);
        if (refusal < 0) {
            return refusal;
        }
        sightings.gather(forth, post, minute);
        if (what == 0) {
            return sightings.unseenAtEnd(minute);
        }
        return sightings.seenAtEnd(minute) ? 1 : 0;
    }

    public int lost(int shelf, int post, int a, int b) {
        boolean all = post == -1;
        if (!isShelf(shelf) || !all && !yard.isPost(post) || !isMinute(a) || !isMinute(b) || b < a) {
            return BAD;
        }
        int refusal = layForth(shelf);
        if (refusal < 0) {
            return refusal;
        }
        if (!all) {
            return lostAt(post, a, b);
        }
        int sum = 0;
        for (int p = 0; p < yard.size; p++) {
            sum += lostAt(p, a, b);
        }
        return sum;
    }

    private int lostAt(int post, int a, int b) {
        sightings.gather(forth, post, b);
        theLaw.setPost(yard.numberOf(post, Yard.VALUE), yard.numberOf(post, Yard.DUE), post, forth.size);
        int sum = 0;
        int passed = 0;
        for (int minute = a; minute <= b; minute++) {
            passed = sightings.countBy(minute, passed);
            if (!sightings.seenAfter(passed, minute)) {
                sum += theLaw.worth(sightings.unseenAfter(passed, minute), minute);
            }
        }
        return sum;
    }

    public int red(int shelf, int hour) {
        if (!isShelf(shelf) || hour < 0 || hour > LAST_HOUR) {
            return BAD;
        }
        int refusal = layForth(shelf);
        if (refusal < 0) {
            return refusal;
        }
        return yard.all() & ~forth.dentedWithin(60 * hour, 60 * hour + 59);
    }

    public int gap(int shelf, int post) {
        if (!isShelf(shelf) || !yard.isPost(post)) {
            return BAD;
        }
        int refusal = layForth(shelf);
        return refusal < 0 ? refusal : forth.longestGapOf(post);
    }

    public int late(int shelf) {
        if (!isShelf(shelf)) {
            return BAD;
        }
        int refusal = layForth(shelf);
        if (refusal < 0) {
            return refusal;
        }
        int bits = 0;
        for (int p = 0; p < yard.size; p++) {
            int longest = forth.longestGapOf(p);
            if (longest == NOT || longest > yard.numberOf(p, Yard.DUE)) {
                bits |= 1 << p;
            }
        }
        return bits;
    }

    public int shortest(int set, int k) {
        if (!yard.isSet(set) || k < -1) {
            return BAD;
        }
        if (Integer.bitCount(set) > MOST_TOURED) {
            return STATE;
        }
        int minutes = tour.reckon(set);
        if (k == -1) {
            return minutes;
        }
        return k < tour.size ? tour.stopAt(k) : NOT;
    }

    public int leftOut(int set, int what) {
        if (!yard.isSet(set) || !isEither(what)) {
            return BAD;
        }
        if (Integer.bitCount(set) > MOST_TOURED) {
            return STATE;
        }
        tour.reckon(set);
        int best = NOT;
        int least = NOT;
        for (int i = 0; i < tour.size; i++) {
            int minutes = tour.minutesWithout(i);
            if (best == NOT || minutes < least) {
                best = tour.member[i];
                least = minutes;
            }
        }
        return what == 0 ? best : least;
    }

    public int thief(int shelf, int post, int a, int n) {
        if (!isShelf(shelf) || !yard.isPost(post) || !isMinute(a) || !isNeed(n)) {
            return BAD;
        }
        int refusal = layForth(shelf);
        return refusal < 0 ? refusal : freeStart(post, a, n);
    }

    public int safe(int shelf, int n) {
        if (!isShelf(shelf) || !isNeed(n)) {
            return BAD;
        }
        int refusal = layForth(shelf);
        if (refusal < 0) {
            return refusal;
        }
        int bits = 0;
        for (int p = 0; p < yard.size; p++) {
            if (freeStart(p, 0, n) == NOT) {
                bits |= 1 << p;
            }
        }
        return bits;
    }

    private int freeStart(int post, int from, int need) {
        sightings.gather(forth, post, LAST_MINUTE + need - 1);
        int start = sightings.freeFrom(from, need);
        return start > LAST_MINUTE ? NOT : start;
    }

    public int two(int shelf, int post, int o) {
        boolean best = post == -1;
        if (!isShelf(shelf) || !best && (!yard.isPost(post) || o < 0 || o > LATEST_SECOND)) {
            return BAD;
        }
        int refusal = layForth(shelf);
        if (refusal < 0) {
            return refusal;
        }
        if (best) {
            return bestSecond();
        }
        sightings.gather(forth, post, LAST_MINUTE);
        return sightings.widestOfTwo(o, LAST_MINUTE);
    }

    private int bestSecond() {
        for (int later = 0; later <= LATEST_SECOND; later++) {
            widest[later] = NOT;
        }
        for (int p = 0; p < yard.size; p++) {
            sightings.gather(forth, p, LAST_MINUTE);
            for (int later = 0; later <= LATEST_SECOND; later++) {
                // NOT is below every gap, so a post that does not count never raises this.
                widest[later] = Math.max(widest[later], sightings.widestOfTwo(later, LAST_MINUTE));
            }
        }
        int best = 0;
        for (int later = 1; later <= LATEST_SECOND; later++) {
            if (widest[later] != NOT && (widest[best] == NOT || widest[later] < widest[best])) {
                best = later;
            }
        }
        return best;
    }

    // ---- forth or back, papers

    public int success(int shelf, int post, int m, int pn) {
        if (!isShelf(shelf) || !yard.isPost(post) || m < 0 || m >= BEST_MINUTES || !isOddsAndNeed(pn)) {
            return BAD;
        }
        int refusal = layBoth(shelf);
        if (refusal < 0) {
            return refusal;
        }
        int need = pn % 100;
        int bits = isFree(forth, post, m, need) ? 1 : 0;
        if (isFree(backward, post, m, need)) {
            bits |= 2;
        }
        return twelfths(bits, pn / 100);
    }

    public int bestMinute(int shelf, int post, int pn, int what) {
        if (!isShelf(shelf) || !yard.isPost(post) || !isOddsAndNeed(pn) || !isEither(what)) {
            return BAD;
        }
        int refusal = layBoth(shelf);
        if (refusal < 0) {
            return refusal;
        }
        markFree(post, pn % 100);
        int best = 0;
        for (int m = 1; m < BEST_MINUTES; m++) {
            if (twelfths(free[m], pn / 100) > twelfths(free[best], pn / 100)) {
                best = m;
            }
        }
        return what == 0 ? best : twelfths(free[best], pn / 100);
    }

    public int mix(int shelf, int post, int n) {
        if (!isShelf(shelf) || !yard.isPost(post) || !isNeed(n)) {
            return BAD;
        }
        int refusal = layBoth(shelf);
        if (refusal < 0) {
            return refusal;
        }
        markFree(post, n);
        int met = 0;
        for (int m = 0; m < BEST_MINUTES; m++) {
            met |= 1 << free[m];
        }
        int best = 0;
        int least = greatestTwelfths(met, 0);
        for (int p = 1; p <= TWELVE; p++) {
            int greatest = greatestTwelfths(met, p);
            if (greatest < least) {
                best = p;
                least = greatest;
            }
        }
        return best;
    }

    private boolean isFree(Course course, int post, int minute, int need) {
        sightings.gather(course, post, minute + need - 1);
        return sightings.freeFrom(minute, need) == minute;
    }

    private void markFree(int post, int need) {
        for (int m = 0; m < BEST_MINUTES; m++) {
            free[m] = 3;
        }
        sightings.gather(forth, post, BEST_MINUTES + need - 2);
        sightings.strikeOut(free, need, 1);
        sightings.gather(backward, post, BEST_MINUTES + need - 2);
        sightings.strikeOut(free, need, 2);
    }

    /** The greatest over the minutes, if so (forth bit 0, back bit 1) it is free in one of them. */
    private static int greatestTwelfths(int met, int p) {
        int greatest = 0;
        for (int bits = 0; bits < 4; bits++) {
            if ((met >> bits & 1) != 0) {
                greatest = Math.max(greatest, twelfths(bits, p));
            }
        }
        return greatest;
    }

    private static int twelfths(int bits, int p) {
        return ((bits & 1) != 0 ? p : 0) + ((bits & 2) != 0 ? TWELVE - p : 0);
    }

    public int paper(int shelf, int what) {
        if (!isShelf(shelf) || what < 0 || what > 3) {
            return BAD;
        }
        Shelf sheet = shelves[shelf];
        int refusal = sheet.refusalFor(Shelf.SHORTS);
        if (refusal < 0) {
            return refusal;
        }
        switch (what) {
            case 0:
                return firstThatCannotBe(sheet);
            case 1:
                return slept(sheet);
            case 2:
                return whereMostSlept(sheet);
            default:
                return forged(sheet);
        }
    }

    private int firstThatCannotBe(Shelf sheet) {
        int twos = sheet.twos();
        for (int k = 0; k < twos; k++) {
            if (spare(sheet, k) < 0) {
                return k;
            }
        }
        return NOT;
    }

    private int slept(Shelf sheet) {
        int twos = sheet.twos();
        int sum = 0;
        for (int k = 0; k < twos; k++) {
            int minutes = spare(sheet, k);
            if (minutes < 0) {
                break;
            }
            sum += minutes;
        }
        return sum;
    }

    private int whereMostSlept(Shelf sheet) {
        int twos = sheet.twos();
        int most = 0;
        int where = NOT;
        for (int k = 0; k < twos; k++) {
            int minutes = spare(sheet, k);
            if (minutes < 0) {
                break;
            }
            if (minutes > most) {
                most = minutes;
                where = k;
            }
        }
        return where;
    }

    private int forged(Shelf sheet) {
        int twos = sheet.twos();
        int many = 0;
        for (int k = 0; k < twos; k++) {
            if (spare(sheet, k) < 0) {
                many++;
            }
        }
        return many;
    }

    /** Minutes that the k-th two of a paper has to spare behind the one ahead; -1: it cannot be. */
    private int spare(Shelf sheet, int k) {
        int at = 2 * k;
        int here = (int) sheet.cellAt(at);
        if (at + 1 >= sheet.size || !yard.isPost(here)) {
            return -1;
        }
        int soonest = yard.way(Yard.GATE, here);
        if (k > 0) {
            int ahead = (int) sheet.cellAt(at - 2);
            if (!yard.isPost(ahead)) {
                return -1;
            }
            soonest = (int) sheet.cellAt(at - 1) + yard.stand() + yard.way(ahead, here);
        }
        return Math.max(-1, (int) sheet.cellAt(at + 1) - soonest);
    }

    public int which(int rp) {
        if (rp < 0 || !isShelf(rp / 10) || !isShelf(rp % 10)) {
            return BAD;
        }
        Shelf sheet = shelves[rp % 10];
        if (sheet.holds == Shelf.NOTHING || shelves[rp / 10].holds == Shelf.NOTHING) {
            return NOTHING_THERE;
        }
        int refusal = layBoth(rp / 10);
        if (refusal == 0) {
            refusal = sheet.refusalFor(Shelf.SHORTS);
        }
        if (refusal < 0) {
            return refusal;
        }
        return (forth.makes(sheet) ? 1 : 0) | (backward.makes(sheet) ? 2 : 0);
    }

    public int fit(int shelf, int k) {
        if (!isShelf(shelf) || k < -1) {
            return BAD;
        }
        Shelf sheet = shelves[shelf];
        int refusal = sheet.refusalFor(Shelf.SHORTS);
        if (refusal < 0) {
            return refusal;
        }
        if (yard.size > MOST_FITTED) {
            return STATE;
        }
        int many = countFits(sheet);
        if (k == -1) {
            return many;
        }
        return many == 0 || k >= yard.size ? NOT : order[k];
    }

    /**
     * A paper tells its first posts itself, and the minutes of those depend on no later ones:
     * so its own order, with the rest by numbers, is the first that fits, if any does.
     */
    private int countFits(Shelf sheet) {
        int told = Math.min(sheet.size / 2, yard.size);
        int used = 0;
        for (int k = 0; k < told; k++) {
            int post = (int) sheet.cellAt(2 * k);
            if (!yard.isPost(post) || (used >> post & 1) != 0) {
                return 0;
            }
            order[k] = post;
            used |= 1 << post;
        }
        int size = told;
        int many = 1;
        for (int p = 0; p < yard.size && size < MOST_FITTED; p++) {
            if ((used >> p & 1) == 0) {
                order[size++] = p;
                many *= size - told;
            }
        }
        forth.layOrder(order, size);
        return forth.makes(sheet) ? many : 0;
    }

    public int hang(int d, int what) {
        if (d < 0 || d > 30 || !isEither(what)) {
            return BAD;
        }
        int best = NOT;
        int farthest = -1;
        for (int cell = 0; cell < 256; cell++) {
            if (yard.cellsTo(Yard.GATE, cell & 15, cell >> 4) > d) {
                continue;
            }
            int far = yard.cellsToNearestPost(cell & 15, cell >> 4);
            if (far > farthest) {
                best = cell;
                farthest = far;
            }
        }
        return what == 0 ? best : farthest;
    }

    public int drawn(int seed, int nm, int what) {
        int nights = nm / 10;
        int rounds = nm % 10;
        if (nm < 0 || nights < 1 || nights > 30 || rounds < 1 || !isEither(what)) {
            return BAD;
        }
        if (yard.size == 0) {
            return 0;
        }
        int z = seed;
        int sum = 0;
        int greatest = 0;
        for (int night = 0; night < nights; night++) {
            int at = Yard.GATE;
            int minutes = 0;
            for (int i = 0; i < rounds; i++) {
                z = z * 1103515245 + 12345;
                int start = (z >>> 8) % yard.size;
                int step = (z >>> 16 & 1) == 1 ? yard.size - 1 : 1;
                minutes += yard.way(at, start) + yard.wholeTurn(start, step);
                at = (start + step * (yard.size - 1)) % yard.size;
            }
            sum += minutes;
            greatest = Math.max(greatest, minutes);
        }
        return what == 0 ? sum : greatest;
    }

    // ---- in deed

    public int walk(int post) {
        if (!yard.isPost(post)) {
            return BAD;
        }
        return deed.walkTo(post, yard.way(deed.at, post), yard.stand()) ? deed.now : STATE;
    }

    public int waits(int n) {
        if (n < 1 || n > 999) {
            return BAD;
        }
        return deed.waitFor(n) ? deed.now : STATE;
    }

    public int home() {
        return deed.goHome(yard.way(deed.at, Yard.GATE)) ? deed.now : STATE;
    }

    public int led(int what) {
        switch (what) {
            case 0:
                return deed.walked;
            case 1:
                return deed.dents;
            case 2:
                return deed.stood;
            case 3:
                return deed.waited;
            case 4:
                return deed.now;
            default:
                return BAD;
        }
    }

    public int image() {
        kept.become(deed);
        hasImage = true;
        return deed.now;
    }

    public int back() {
        if (!hasImage) {
            return STATE;
        }
        deed.become(kept);
        return deed.now;
    }

    public int undo() {
        return changes.takeBack(yard.told) ? changes.done : STATE;
    }

    public int redo() {
        return changes.doAgain(yard.told) ? changes.size - changes.done : STATE;
    }

    // ---- acts, shelves

    public int body(int kind) {
        if (!Keys.isKind(kind)) {
            return BAD;
        }
        return keys.add(kind);
    }

    public int act(int body, int act, int x) {
        return keys.perform(body, act, x);
    }

    public int trace(int i) {
        return i < 0 || i >= keys.traced() ? BAD : keys.ranAs[i];
    }

    public int keep(int shelf, int body) {
        if (!isShelf(shelf) || body != -1 && !keys.isKey(body)) {
            return BAD;
        }
        shelves[shelf].holdKey(body);
        return 1;
    }

    public int row(int shelf, int sort, int n) {
        if (!isShelf(shelf) || sort < Shelf.BYTES || sort > Shelf.BOOLEANS || n > Shelf.LONGEST) {
            return BAD;
        }
        if (n < 0) {
            return SIZE_BELOW_ZERO;
        }
        shelves[shelf].holdRow(sort, n);
        return 1;
    }

    public int put(int shelf, int i, long v) {
        if (!isShelf(shelf)) {
            return BAD;
        }
        int refusal = shelves[shelf].refusalForPlace(i);
        if (refusal < 0) {
            return refusal;
        }
        shelves[shelf].setCell(i, v);
        return 1;
    }

    public long element(int shelf, int i) {
        if (!isShelf(shelf) || shelves[shelf].refusalForPlace(i) < 0) {
            return NO_ELEMENT;
        }
        return shelves[shelf].cellAt(i);
    }

    public int shift(int shelf, int i, int other, int j, int n) {
        if (!isShelf(shelf) || !isShelf(other)) {
            return BAD;
        }
        Shelf from = shelves[shelf];
        Shelf to = shelves[other];
        if (from.holds == Shelf.NOTHING || to.holds == Shelf.NOTHING) {
            return NOTHING_THERE;
        }
        if (from.holds != Shelf.ROW || to.holds != Shelf.ROW || from.sort != to.sort) {
            return OTHER_KIND;
        }
        if (!from.hasPlaces(i, n) || !to.hasPlaces(j, n)) {
            return NO_PLACE;
        }
        System.arraycopy(from.cells, i, to.cells, j, n);
        return n;
    }

    public int taken(int shelf, int k) {
        if (!isShelf(shelf) || !Keys.isKind(k)) {
            return BAD;
        }
        Shelf from = shelves[shelf];
        if (from.holds == Shelf.NOTHING) {
            return NOTHING_THERE;
        }
        int kind = from.holds == Shelf.KEY ? keys.kindOf(from.key) : -1;
        return Keys.isUnder(kind, k) ? kind : OTHER_KIND;
    }

    public int count(int what) {
        switch (what) {
            case 0:
                return yard.size;
            case 1:
                return theLaw.fed;
            case 2:
                return changes.done;
            case 3:
                return keys.size;
            case 4:
                return keys.ran;
            default:
                return BAD;
        }
    }

    // ---- what many calls ask

    private static boolean isShelf(int shelf) {
        return shelf >= 0 && shelf < SHELVES;
    }

    private static boolean isEither(int what) {
        return what == 0 || what == 1;
    }

    private static boolean isMinute(int minute) {
        return minute >= 0 && minute <= LAST_MINUTE;
    }

    private static boolean isNeed(int n) {
        return n >= 1 && n <= LONGEST_NEED;
    }

    private static boolean isOddsAndNeed(int pn) {
        return pn >= 0 && pn / 100 <= TWELVE && isNeed(pn % 100);
    }

    /** Lays the round of a shelf forth: 0, or the refusal. The shelf's number has been looked at. */
    private int layForth(int shelf) {
        int refusal = shelves[shelf].refusalFor(Shelf.BYTES);
        if (refusal == 0) {
            forth.layRound(shelves[shelf]);
        }
        return refusal;
    }

    private int layBoth(int shelf) {
        int refusal = layForth(shelf);
        if (refusal == 0) {
            backward.layTurned(forth);
        }
        return refusal;
    }

    /** The posts, the gate, pace and stand, as they are now. */
    private static final class Yard {
        static final int X = 0, Y = 1, VALUE = 2, DUE = 3, GATE_X = 4, STAND = 7, DENTS = 8;
        /** The gate's place behind the nine posts', so that one rule measures every way. */
        static final int GATE = 9;
        private static final int PACE_PLACE = 38, STAND_PLACE = 39;
        private static final int[] LEAST = {0, 0, 0, 1, 0, 0, 1, 0};
        private static final int[] MOST = {15, 15, 9, 999, 15, 15, 9, 9};

        /** By fours X, Y, VALUE, DUE of each post; then X, Y of the gate, PACE, STAND. */
        final int[] told = new int[40];
        int size;

        Yard() {
            told[PACE_PLACE] = 1;
            told[STAND_PLACE] = 1;
        }

        static boolean fits(int what, int v) {
            return what >= 0 && what < LEAST.length && v >= LEAST[what] && v <= MOST[what];
        }

        int add(int x, int y, int value) {
            if (size >= GATE) {
                return FULL;
            }
            told[4 * size + X] = x;
            told[4 * size + Y] = y;
            told[4 * size + VALUE] = value;
            told[4 * size + DUE] = 60;
            return size++;
        }

        boolean isPost(int number) {
            return number >= 0 && number < size;
        }

        int all() {
            return (1 << size) - 1;
        }

        boolean isSet(int set) {
            return set >= 0 && set <= all();
        }

        /** Where a number that mend() names is told; -1: there is none such. */
        int placeOf(int number, int what) {
            if (what >= X && what <= DUE) {
                return isPost(number) ? 4 * number + what : -1;
            }
            return what >= GATE_X && what <= STAND && number == 0 ? 4 * GATE + what - GATE_X : -1;
        }

        int numberOf(int post, int what) {
            int place = placeOf(post, what);
            return place < 0 ? 0 : told[place];
        }

        int stand() {
            return told[STAND_PLACE];
        }

        /** Cells from a post (or the gate) to a cell. */
        int cellsTo(int place, int x, int y) {
            if (place < 0 || place > GATE) {
                return 0;
            }
            return Math.abs(told[4 * place + X] - x) + Math.abs(told[4 * place + Y] - y);
        }

        int cellsToNearestPost(int x, int y) {
            int nearest = size == 0 ? 0 : 30;
            for (int p = 0; p < size; p++) {
                nearest = Math.min(nearest, cellsTo(p, x, y));
            }
            return nearest;
        }

        /** Minutes from one post (or the gate) to another. */
        int way(int from, int to) {
            if (to < 0 || to > GATE) {
                return 0;
            }
            return cellsTo(from, told[4 * to + X], told[4 * to + Y]) * told[PACE_PLACE];
        }

        /** Minutes through all posts from the first dent on, each time step numbers on. */
        int wholeTurn(int start, int step) {
            if (size == 0) {
                return 0;
            }
            int minutes = stand();
            int at = start;
            for (int i = 1; i < size; i++) {
                int next = (at + step) % size;
                minutes += way(at, next) + stand();
                at = next;
            }
            return minutes;
        }
    }

    /** What mend() changed, the latest last: those done, behind them those undone. */
    private static final class Changes {
        private static final int MOST = 40;

        private final int[] place = new int[MOST];
        private final int[] was = new int[MOST];
        private final int[] became = new int[MOST];
        int done;
        int size;

        void note(int where, int before, int after) {
            if (done >= MOST) {
                dropOldest();
            }
            place[done] = where;
            was[done] = before;
            became[done] = after;
            done++;
            size = done;
        }

        private void dropOldest() {
            System.arraycopy(place, 1, place, 0, MOST - 1);
            System.arraycopy(was, 1, was, 0, MOST - 1);
            System.arraycopy(became, 1, became, 0, MOST - 1);
            done = MOST - 1;
        }

        boolean takeBack(int[] told) {
            if (done <= 0) {
                return false;
            }
            done--;
            lay(told, place[done], was[done]);
            return true;
        }

        boolean doAgain(int[] told) {
            if (done >= size) {
                return false;
            }
            lay(told, place[done], became[done]);
            done++;
            return true;
        }

        private static void lay(int[] told, int where, int v) {
            if (where >= 0 && where < told.length) {
                told[where] = v;
            }
        }
    }

    /** Nothing, a key's number, or a row; its cells are kept for the next row. */
    private static final class Shelf {
        static final int NOTHING = 0, KEY = 1, ROW = 2;
        static final int BYTES = 0, SHORTS = 1, INTS = 2, BOOLEANS = 4;
        static final int LONGEST = 60;

        final long[] cells = new long[LONGEST];
        int holds;
        int key;
        int sort;
        int size;

        void holdKey(int number) {
            holds = number < 0 ? NOTHING : KEY;
            key = number;
            size = 0;
        }

        void holdRow(int newSort, int newSize) {
            holds = ROW;
            sort = newSort;
            size = newSize;
            for (int i = 0; i < LONGEST; i++) {
                cells[i] = 0;
            }
        }

        int refusalFor(int wanted) {
            if (holds == NOTHING) {
                return NOTHING_THERE;
            }
            return holds == ROW && sort == wanted ? 0 : OTHER_KIND;
        }

        int refusalForPlace(int i) {
            if (holds != ROW) {
                return holds == NOTHING ? NOTHING_THERE : OTHER_KIND;
            }
            return hasPlaces(i, 1) ? 0 : NO_PLACE;
        }

        boolean hasPlaces(int from, int n) {
            return from >= 0 && n >= 0 && from <= size && n <= size - from;
        }

        long cellAt(int i) {
            return i >= 0 && i < size ? cells[i] : 0;
        }

        void setCell(int i, long v) {
            if (i < 0 || i >= size) {
                return;
            }
            switch (sort) {
                case BYTES:
                    cells[i] = (byte) v;
                    break;
                case SHORTS:
                    cells[i] = (short) v;
                    break;
                case INTS:
                    cells[i] = (int) v;
                    break;
                case BOOLEANS:
                    cells[i] = v != 0 ? 1 : 0;
                    break;
                default:
                    cells[i] = v;
            }
        }

        /** How many twos a paper has, one that lacks its minute too. */
        int twos() {
            return (size + 1) / 2;
        }
    }

    /** A round laid out in minutes; its dents are reckoned, not kept, as it goes on for ever. */
    private static final class Course {
        private static final int LONGEST = 20, LAST_DENT_MINUTE = 1999, MOST_DENTS = 4000;

        private final Yard yard;
        private final int[] stops = new int[LONGEST];
        private final int[] offsets = new int[LONGEST];
        private int lead;
        int size;
        int period;

        Course(Yard yard) {
            this.yard = yard;
        }

        void layRound(Shelf from) {
            size = 0;
            int most = Math.min(LONGEST, from.size);
            for (int i = 0; i < most && yard.isPost((int) from.cellAt(i)); i++) {
                stops[size++] = (int) from.cellAt(i);
            }
            measure();
        }

        void layTurned(Course other) {
            size = other.size;
            for (int i = 0; i < size; i++) {
                stops[i] = other.stops[size - 1 - i];
            }
            measure();
        }

        void layOrder(int[] order, int many) {
            size = Math.min(many, Math.min(LONGEST, order.length));
            for (int i = 0; i < size; i++) {
                stops[i] = order[i];
            }
            measure();
        }

        private void measure() {
            lead = 0;
            period = 0;
            if (size == 0) {
                return;
            }
            lead = yard.way(Yard.GATE, stops[0]);
            offsets[0] = 0;
            for (int i = 1; i < size; i++) {
                offsets[i] = offsets[i - 1] + yard.stand() + yard.way(stops[i - 1], stops[i]);
            }
            period = offsets[size - 1] + yard.stand() + yard.way(stops[size - 1], stops[0]);
        }

        int stopOf(int dent) {
            return size == 0 || dent < 0 ? NOT : stops[dent % size];
        }

        private int minuteOf(int dent) {
            return size == 0 || dent < 0 ? NOT : lead + dent / size * period + offsets[dent % size];
        }

        int seenMinutes() {
            return Math.max(1, yard.stand());
        }

        /** How many dents there are to a minute: the first so many are they. */
        int dentsBy(int minute) {
            int passed = Math.min(minute, LAST_DENT_MINUTE) - lead;
            if (size == 0 || passed < 0) {
                return 0;
            }
            if (period == 0) {
                return MOST_DENTS;
            }
            int dents = passed / period * size;
            for (int i = 0; i < size && offsets[i] <= passed % period; i++) {
                dents++;
            }
            return Math.min(dents, MOST_DENTS);
        }

        /** Tells the minutes in which a post is dented, to one, in their order. */
        void tellDents(int post, int until, Sightings to) {
            int dents = dentsBy(until);
            int turns = size == 0 ? 0 : (dents + size - 1) / size;
            for (int turn = 0; turn < turns; turn++) {
                int most = Math.min(size, dents - turn * size);
                for (int i = 0; i < most; i++) {
                    if (stops[i] == post) {
                        to.note(lead + turn * period + offsets[i]);
                    }
                }
            }
        }

        int firstMinuteOf(int post) {
            for (int i = 0; i < size; i++) {
                if (stops[i] == post) {
                    return lead + offsets[i];
                }
            }
            return NOT;
        }

        int dentedWithin(int from, int to) {
            int dents = dentsBy(to);
            int bits = 0;
            for (int i = dentsBy(from - 1); i < dents; i++) {
                bits |= 1 << stopOf(i);
            }
            return bits;
        }

        int longestGapOf(int post) {
            int longest = firstMinuteOf(post);
            if (longest == NOT) {
                return NOT;
            }
            // Every gap that ever comes begins within the first turn, and ends within the second.
            int ahead = NOT;
            for (int i = 0; i < 2 * size; i++) {
                if (stopOf(i) == post) {
                    longest = ahead == NOT ? longest : Math.max(longest, minuteOf(i) - ahead);
                    ahead = minuteOf(i);
                }
            }
            return longest;
        }

        /** Whether the dents, as far as a paper goes, are just those on it. */
        boolean makes(Shelf sheet) {
            int twos = sheet.twos();
            for (int k = 0; k < twos; k++) {
                if (2 * k + 1 >= sheet.size || size == 0 || minuteOf(k) > LAST_DENT_MINUTE) {
                    return false;
                }
                if (sheet.cellAt(2 * k) != stopOf(k) || sheet.cellAt(2 * k + 1) != minuteOf(k)) {
                    return false;
                }
            }
            return true;
        }
    }

    /** The minutes in which one post is dented on a course, in their order. */
    private static final class Sightings {
        /** Two a minute for 1,098 minutes: more in one minute tell nothing new. */
        private static final int MOST = 2200;

        private final int[] minutes = new int[MOST];
        private int size;
        private int width;

        void gather(Course course, int post, int until) {
            size = 0;
            width = course.seenMinutes();
            course.tellDents(post, until, this);
        }

        void note(int minute) {
            boolean third = size >= 2 && minutes[size - 2] == minute;
            if (!third && size < MOST) {
                minutes[size++] = minute;
            }
        }

        /** How many there are to a minute, if so many are known to be. */
        int countBy(int minute, int known) {
            int many = Math.max(0, known);
            while (many < size && minutes[many] <= minute) {
                many++;
            }
            return many;
        }

        int unseenAfter(int passed, int minute) {
            return passed < 1 || passed > size ? minute + 1 : minute - minutes[passed - 1];
        }

        boolean seenAfter(int passed, int minute) {
            return passed >= 1 && passed <= size && minute - minutes[passed - 1] < width;
        }

        int unseenAtEnd(int minute) {
            return unseenAfter(size, minute);
        }

        boolean seenAtEnd(int minute) {
            return seenAfter(size, minute);
        }

        /** The first minute, no sooner than one told, from which so many are not seen. */
        int freeFrom(int from, int need) {
            int start = from;
            for (int i = 0; i < size && minutes[i] < start + need; i++) {
                start = Math.max(start, minutes[i] + width);
            }
            return start;
        }

        /** Takes a bit from each minute from which so many minutes are not all unseen. */
        void strikeOut(int[] free, int need, int bit) {
            int next = 0;
            for (int i = 0; i < size; i++) {
                int end = Math.min(free.length, minutes[i] + width);
                next = Math.max(next, minutes[i] - need + 1);
                for (; next < end; next++) {
                    free[next] &= ~bit;
                }
            }
        }

        /** The widest gap if a second one comes so much later; dents ahead of that do not count. */
        int widestOfTwo(int later, int until) {
            int own = countBy(later - 1, 0);
            int second = 0;
            int widest = NOT;
            int ahead = NOT;
            for (int step = 0; step < 2 * size; step++) {
                int ownNext = own < size ? minutes[own] : NEVER;
                int secondNext = second < size ? minutes[second] + later : NEVER;
                int next = Math.min(ownNext, secondNext);
                if (next > until) {
                    break;
                }
                if (ownNext <= secondNext) {
                    own++;
                } else {
                    second++;
                }
                widest = ahead == NOT ? NOT : Math.max(widest, next - ahead);
                ahead = next;
            }
            return widest;
        }
    }

    /** The shortest way from the gate through a set of posts and back to it. */
    private static final class Tour {
        private final Yard yard;
        final int[] member = new int[MOST_TOURED];
        /** At mask * 7 + i: minutes home from the i-th member through those of the mask. */
        private final int[] rest = new int[(1 << MOST_TOURED) * MOST_TOURED];
        int size;

        Tour(Yard yard) {
            this.yard = yard;
        }

        int reckon(int set) {
            size = 0;
            for (int p = 0; p < yard.size && size < MOST_TOURED; p++) {
                if ((set >> p & 1) != 0) {
                    member[size++] = p;
                }
            }
            for (int mask = 0; mask < 1 << size; mask++) {
                for (int i = 0; i < size; i++) {
                    if ((mask >> i & 1) == 0) {
                        rest[mask * MOST_TOURED + i] = leastFrom(member[i], mask);
                    }
                }
            }
            return leastFrom(Yard.GATE, (1 << size) - 1);
        }

        int minutesWithout(int i) {
            return leastFrom(Yard.GATE, (1 << size) - 1 & ~(1 << i));
        }

        private int leastFrom(int place, int mask) {
            if (mask == 0) {
                return yard.way(place, Yard.GATE);
            }
            int least = NEVER;
            for (int i = 0; i < size; i++) {
                if ((mask >> i & 1) != 0) {
                    least = Math.min(least, throughFirst(place, mask, i));
                }
            }
            return least;
        }

        private int throughFirst(int place, int mask, int i) {
            int left = mask & ~(1 << i);
            return yard.way(place, member[i]) + yard.stand() + rest[left * MOST_TOURED + i];
        }

        /** The k-th post of the way reckoned last. */
        int stopAt(int k) {
            int place = Yard.GATE;
            int mask = (1 << size) - 1;
            for (int step = 0; step <= k && mask != 0; step++) {
                int next = firstOfLeast(place, mask);
                mask &= ~(1 << next);
                place = member[next];
            }
            return place;
        }

        private int firstOfLeast(int place, int mask) {
            int least = leastFrom(place, mask);
            for (int i = 0; i < size; i++) {
                if ((mask >> i & 1) != 0 && throughFirst(place, mask, i) == least) {
                    return i;
                }
            }
            return 0;
        }
    }

    /** The tape, and the law that was read from it as a code for a stack. */
    private static final class Law {
        private static final int LONGEST = 120, MOST_OPEN = 6, MOST_CODE = 256, MOST_LOST = 99;
        private static final int NUMBER = '#', NAME = '$', NEGATE = '~', TEST = '?', ANSWER = ';';
        private static final int COMPARING = 2, TIMES = 4;
        private static final String NAMES = "vumdpn";
        private static final int V = 0, U = 1, M = 2, D = 3, P = 4, N = 5;

        private final int[] tape = new int[LONGEST];
        private final int[] draft = new int[MOST_CODE];
        private final int[] code = new int[MOST_CODE];
        private final int[] stack = new int[LONGEST];
        private final int[] named = new int[6];
        private int drafted;
        private int size;
        private int at;
        private boolean broken;
        int fed;

        boolean take(int letter) {
            if (fed >= LONGEST) {
                return false;
            }
            tape[fed++] = letter;
            return true;
        }

        /** The tape's text becomes the law, if it is one: -1; else its fault, and the law stays. */
        int adopt() {
            int fault = readText();
            if (fault < 0) {
                System.arraycopy(draft, 0, code, 0, MOST_CODE);
                size = drafted;
            }
            fed = 0;
            return fault;
        }

        private int readText() {
            at = 0;
            drafted = 0;
            broken = false;
            for (int line = 0; line < LONGEST; line++) {
                readLine();
                if (broken) {
                    return at;
                }
                if (at >= fed) {
                    return -1;
                }
                if (tape[at] != ';') {
                    return at;
                }
                at++;
            }
            return at;
        }

        private void readLine() {
            readTerm(0, 0);
            if (broken || peek() != '?') {
                emit(ANSWER);
                return;
            }
            at++;
            emit(TEST);
            int hole = drafted;
            emit(0);
            readTerm(0, 0);
            emit(ANSWER);
            if (hole < MOST_CODE) {
                draft[hole] = drafted;
            }
        }

        private int peek() {
            return at < fed ? tape[at] : -1;
        }

        private void emit(int word) {
            if (drafted < MOST_CODE) {
                draft[drafted++] = word;
            }
        }

        /** Reads operands joined by signs that bind at least so much. */
        private void readTerm(int binding, int open) {
            readOperand(open);
            int most = TIMES;
            for (int i = 0; i < LONGEST && !broken; i++) {
                int sign = peek();
                int level = bindingOf(sign);
                if (level < binding || level > most) {
                    return;
                }
                at++;
                readTerm(level + 1, open);
                emit(sign);
                // Behind a comparison there is no other one at its level.
                most = level == COMPARING ? COMPARING - 1 : level;
            }
        }

        private static int bindingOf(int sign) {
            switch (sign) {
                case '|':
                    return 0;
                case '&':
                    return 1;
                case '<':
                case '=':
                case '>':
                    return COMPARING;
                case '+':
                case '-':
                    return 3;
                case '*':
                case '/':
                case '%':
                    return TIMES;
                default:
                    return -1;
            }
        }

        private void readOperand(int open) {
            int c = peek();
            if (isDigit(c)) {
                readNumber();
            } else if (c >= 0 && NAMES.indexOf((char) c) >= 0) {
                emit(NAME);
                emit(NAMES.indexOf((char) c));
                at++;
            } else if (open < MOST_OPEN && (c == '(' || c == '!' || c == '-')) {
                at++;
                readOpened(c, open + 1);
            } else {
                broken = true;
            }
        }

        private void readOpened(int opener, int open) {
            if (opener != '(') {
                readOperand(open);
                emit(opener == '-' ? NEGATE : opener);
                return;
            }
            readTerm(0, open);
            if (broken || peek() != ')') {
                broken = true;
                return;
            }
            at++;
        }

        private static boolean isDigit(int c) {
            return c >= '0' && c <= '9';
        }

        private void readNumber() {
            int value = 0;
            for (int i = 0; i < 4 && isDigit(peek()); i++) {
                value = 10 * value + peek() - '0';
                at++;
            }
            emit(NUMBER);
            emit(value);
        }

        void setPost(int value, int due, int post, int roundSize) {
            named[V] = value;
            named[D] = due;
            named[P] = post;
            named[N] = roundSize;
        }

        /** What may be lost in a minute at the post that was set. */
        int worth(int unseenFor, int minute) {
            named[U] = unseenFor;
            named[M] = minute;
            int raw = size == 0 ? named[V] * named[U] / 10 : run();
            return Math.max(0, Math.min(MOST_LOST, raw));
        }

        private int run() {
            int top = 0;
            for (int pc = 0; pc < size; pc++) {
                int word = code[pc];
                int next = pc + 1 < size ? code[pc + 1] : 0;
                if (word == NUMBER || word == NAME) {
                    top = push(top, word == NUMBER ? next : nameAt(next));
                    pc++;
                } else if (word == TEST) {
                    top = 0;
                    // A line whose test is 0 is left for the next one, which lies behind it.
                    pc = stack[0] == 0 ? Math.max(pc, next - 1) : pc + 1;
                } else if (word == ANSWER) {
                    return stack[0];
                } else {
                    top = work(word, top);
                }
            }
            return 0;
        }

        private int push(int top, int value) {
            if (top >= LONGEST) {
                return top;
            }
            stack[top] = value;
            return top + 1;
        }

        private int nameAt(int i) {
            return i >= 0 && i < named.length ? named[i] : 0;
        }

        /** Works a sign on what lies on the stack: how much lies there then. */
        private int work(int sign, int top) {
            if (sign == NEGATE || sign == '!') {
                if (top >= 1) {
                    stack[top - 1] = sign == NEGATE ? -stack[top - 1] : truth(stack[top - 1] == 0);
                }
                return top;
            }
            if (top < 2) {
                return top;
            }
            stack[top - 2] = join(sign, stack[top - 2], stack[top - 1]);
            return top - 1;
        }

        private static int truth(boolean so) {
            return so ? 1 : 0;
        }

        private static int join(int sign, int a, int b) {
            switch (sign) {
                case '|':
                    return truth(a != 0 || b != 0);
                case '&':
                    return truth(a != 0 && b != 0);
                case '<':
                    return truth(a < b);
                case '=':
                    return truth(a == b);
                case '>':
                    return truth(a > b);
                case '+':
                    return a + b;
                case '-':
                    return a - b;
                case '*':
                    return a * b;
                case '/':
                    return b == 0 ? 0 : a / b;
                default:
                    return b == 0 ? 0 : a % b;
            }
        }
    }

    /** The watchman in deed: where he is, and what is led of him. */
    private static final class Deed {
        private static final int LATEST = 9999;

        final int[] dented = new int[MOST_POSTS];
        int at = Yard.GATE;
        int now;
        int walked;
        int dents;
        int stood;
        int waited;

        boolean walkTo(int post, int way, int stand) {
            if (post < 0 || post >= MOST_POSTS || now + way + stand > LATEST) {
                return false;
            }
            at = post;
            now += way + stand;
            walked += way;
            stood += stand;
            dents++;
            dented[post]++;
            return true;
        }

        boolean waitFor(int minutes) {
            if (now + minutes > LATEST) {
                return false;
            }
            now += minutes;
            waited += minutes;
            return true;
        }

        boolean goHome(int way) {
            if (now + way > LATEST) {
                return false;
            }
            at = Yard.GATE;
            now += way;
            walked += way;
            return true;
        }

        void become(Deed other) {
            System.arraycopy(other.dented, 0, dented, 0, MOST_POSTS);
            at = other.at;
            now = other.now;
            walked = other.walked;
            dents = other.dents;
            stood = other.stood;
            waited = other.waited;
        }
    }

    /** The keys that are kept, their kinds, and what ran in the latest act. */
    private static final class Keys {
        private static final int MOST = 50, MOST_TRACED = 24, KINDS = 8, ACTS = 4, DEEPEST = 40;
        private static final int TURNS = 0, SEES = 1, FEARS = 2, TELLS = 3;
        /** The kind above each kind. */
        private static final int[] ABOVE = {-1, 0, 0, 2, 1, 3, 0, 4};
        /** By kinds, what turns, sees, fears, tells run; 0: as the kind above. */
        private static final int[] BODIES = {
            1, 10, 11, 2,
            20, 0, 0, 0,
            0, 30, 0, 0,
            0, 41, 40, 0,
            0, 0, 50, 0,
            0, 0, 0, 60,
            70, 0, 0, 0,
            0, 80, 0, 81,
        };

        private final int[] kinds = new int[MOST];
        final int[] ranAs = new int[MOST_TRACED];
        int size;
        int ran;
        private int number;

        static boolean isKind(int kind) {
            return kind >= 0 && kind < KINDS;
        }

        static boolean isUnder(int kind, int top) {
            int k = kind;
            for (int i = 0; i < KINDS && isKind(k); i++) {
                if (k == top) {
                    return true;
                }
                k = ABOVE[k];
            }
            return false;
        }

        boolean isKey(int key) {
            return key >= 0 && key < size;
        }

        int kindOf(int key) {
            return isKey(key) ? kinds[key] : -1;
        }

        int add(int kind) {
            if (size >= MOST) {
                return FULL;
            }
            kinds[size] = kind;
            return size++;
        }

        int traced() {
            return Math.min(ran, MOST_TRACED);
        }

        int perform(int key, int act, int x) {
            ran = 0;
            if (!isKey(key) || act < 0 || act >= ACTS) {
                return 0;
            }
            number = key;
            return runFrom(kinds[key], act, x, 0);
        }

        /** Runs the body of a kind, or of the next one above that has one. */
        private int runFrom(int kind, int act, int x, int depth) {
            int k = kind;
            for (int i = 0; i < KINDS && isKind(k) && BODIES[ACTS * k + act] == 0; i++) {
                k = ABOVE[k];
            }
            if (!isKind(k) || depth > DEEPEST) {
                return 0;
            }
            int body = BODIES[ACTS * k + act];
            if (ran < MOST_TRACED) {
                ranAs[ran] = body;
            }
            ran++;
            return runBody(body, ABOVE[k], x, depth + 1);
        }

        private int runBody(int body, int above, int x, int depth) {
            int own = kindOf(number);
            switch (body) {
                case 1:
                    return x + number;
                case 2:
                    return runFrom(own, SEES, x, depth) - runFrom(own, FEARS, 1, depth);
                case 10:
                    return runFrom(own, TURNS, x, depth) * 2;
                case 11:
                    return x ^ number;
                case 20:
                    return runFrom(above, TURNS, x, depth) + 3;
                case 30:
                    return -runFrom(above, SEES, x, depth);
                case 40:
                    return runFrom(above, FEARS, x, depth) * 3;
                case 41:
                    return runFrom(above, SEES, x + 1, depth);
                case 50:
                    return runFrom(above, FEARS, x, depth) - runFrom(own, TURNS, 2, depth);
                case 60:
                    return runFrom(above, TELLS, x, depth) ^ 5;
                case 70:
                    return runFrom(above, TURNS, x, depth) * 2;
                case 80:
                    return runFrom(above, SEES, x, depth) + runFrom(own, FEARS, 2, depth);
                case 81:
                    return runFrom(above, TELLS, x, depth) - 1;
                default:
                    return 0;
            }
        }
    }
}
