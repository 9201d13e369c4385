import java.util.ArrayDeque;
import java.util.ArrayList;
import java.util.Arrays;
import java.util.Collections;
import java.util.Deque;
import java.util.List;

/**
 * The document once more, as slowly and plainly as can be: every dent of a round is walked and kept,
 * every minute looked at, every order tried. RandomRunsTest holds the class against it.
 */
final class NaiveYard {
    static final int BAD = -1, NOT = -2, FULL = -3, STATE = -5;

    static final class Post {
        int x, y, value = 1, due = 60, dents;
    }

    static final class Dent {
        final int post, minute;

        Dent(int post, int minute) {
            this.post = post;
            this.minute = minute;
        }
    }

    /** A refusal on its way out of a call. */
    static final class Refusal extends RuntimeException {
        private static final long serialVersionUID = 1;
        final int answer;

        Refusal(int answer) {
            this.answer = answer;
        }
    }

    private final List<Post> yard = new ArrayList<>();
    private int gateX, gateY, pace = 1, stand = 1;
    private final Deque<int[]> undoable = new ArrayDeque<>();
    private final Deque<int[]> redoable = new ArrayDeque<>();
    private final StringBuilder tape = new StringBuilder();
    private String lawText;
    private final Object[] shelves = new Object[6];
    private final List<NaiveKeys.Key> bodies = new ArrayList<>();
    private List<Integer> ran = new ArrayList<>();
    private Integer at;
    private int[] led = new int[5];
    private int[] image;

    // ---- posts

    int post(int xy) {
        if (xy < 0 || xy % 100 > 15 || xy / 100 > 15) return BAD;
        if (yard.size() == 9) return FULL;
        Post p = new Post();
        p.x = xy % 100;
        p.y = xy / 100;
        yard.add(p);
        return yard.size() - 1;
    }

    int posts(int shelf, int i, int n) {
        if (shelf < 0 || shelf > 5 || n < 1 || n > 9) return BAD;
        if (shelves[shelf] == null) return 0;
        if (!(shelves[shelf] instanceof byte[])) return -12;
        byte[] row = (byte[]) shelves[shelf];
        int came = 0;
        try {
            while (came < n && yard.size() < 9) {
                int x = row[Math.addExact(i, 3 * came)], y = row[i + 3 * came + 1], v = row[i + 3 * came + 2];
                if (x < 0 || x > 15 || y < 0 || y > 15 || v < 0 || v > 9) break;
                yard.get(post(100 * y + x)).value = v;
                came++;
            }
        } catch (ArrayIndexOutOfBoundsException | ArithmeticException e) {
            return came;
        }
        return came;
    }

    private boolean isPost(int n) {
        return n >= 0 && n < yard.size();
    }

    private int get(int number, int what) {
        switch (what) {
            case 0: return yard.get(number).x;
            case 1: return yard.get(number).y;
            case 2: return yard.get(number).value;
            case 3: return yard.get(number).due;
            case 4: return gateX;
            case 5: return gateY;
            case 6: return pace;
            default: return stand;
        }
    }

    private void set(int number, int what, int v) {
        switch (what) {
            case 0: yard.get(number).x = v; break;
            case 1: yard.get(number).y = v; break;
            case 2: yard.get(number).value = v; break;
            case 3: yard.get(number).due = v; break;
            case 4: gateX = v; break;
            case 5: gateY = v; break;
            case 6: pace = v; break;
            default: stand = v;
        }
    }

    int mend(int number, int what, int v) {
        if (what < 0 || what > 7) return BAD;
        if (what < 4 ? !isPost(number) : number != 0) return BAD;
        int least = what == 3 || what == 6 ? 1 : 0;
        int most = what == 3 ? 999 : what == 2 || what >= 6 ? 9 : 15;
        if (v < least || v > most) return BAD;
        int was = get(number, what);
        if (was == v) return was;
        set(number, what, v);
        undoable.addLast(new int[] {number, what, was, v});
        if (undoable.size() > 40) undoable.removeFirst();
        redoable.clear();
        return was;
    }

    int of(int number, int what) {
        if (what < 0 || what > 8) return BAD;
        if (what < 4 || what == 8 ? !isPost(number) : number != 0) return BAD;
        return what == 8 ? yard.get(number).dents : get(number, what);
    }

    int feed(int letter) {
        if (letter < 0 || letter > 255) return BAD;
        if (tape.length() == 120) return FULL;
        tape.append((char) letter);
        return tape.length();
    }

    int law() {
        String text = tape.toString();
        tape.setLength(0);
        int fault = NaiveLaw.fault(text);
        if (fault < 0) lawText = text;
        return fault < 0 ? 1 : -100 - fault;
    }

    // ---- rounds

    private int way(int x0, int y0, int x1, int y1) {
        return (Math.abs(x0 - x1) + Math.abs(y0 - y1)) * pace;
    }

    private int way(Integer from, Integer to) {
        int x0 = from == null ? gateX : yard.get(from).x, y0 = from == null ? gateY : yard.get(from).y;
        int x1 = to == null ? gateX : yard.get(to).x, y1 = to == null ? gateY : yard.get(to).y;
        return way(x0, y0, x1, y1);
    }

    private void wantShelf(int shelf) {
        if (shelf < 0 || shelf > 5) throw new Refusal(BAD);
    }

    private void want(boolean so) {
        if (!so) throw new Refusal(BAD);
    }

    private List<Integer> roundOn(int shelf) {
        if (shelves[shelf] == null) throw new Refusal(-11);
        if (!(shelves[shelf] instanceof byte[])) throw new Refusal(-12);
        List<Integer> round = new ArrayList<>();
        for (byte b : (byte[]) shelves[shelf]) {
            if (!isPost(b) || round.size() == 20) break;
            round.add((int) b);
        }
        return round;
    }

    private static List<Integer> turned(List<Integer> round) {
        List<Integer> t = new ArrayList<>(round);
        Collections.reverse(t);
        return t;
    }

    private List<Dent> dentsOf(List<Integer> round) {
        List<Dent> dents = new ArrayList<>();
        if (round.isEmpty()) return dents;
        Integer here = null;
        int minute = 0;
        for (int i = 0; dents.size() < 4000; i = (i + 1) % round.size()) {
            minute += way(here, round.get(i));
            if (minute > 1999) break;
            dents.add(new Dent(round.get(i), minute));
            minute += stand;
            here = round.get(i);
        }
        return dents;
    }

    private boolean[] seen(List<Dent> dents, int post) {
        boolean[] seen = new boolean[2100];
        for (Dent d : dents) {
            if (d.post != post) continue;
            for (int m = d.minute; m < d.minute + Math.max(1, stand); m++) seen[m] = true;
        }
        return seen;
    }

    private static boolean free(boolean[] seen, int from, int n) {
        for (int m = from; m < from + n; m++) if (seen[m]) return false;
        return true;
    }

    private static int since(List<Dent> dents, int post, int minute) {
        int since = minute + 1;
        for (Dent d : dents) if (d.post == post && d.minute <= minute) since = minute - d.minute;
        return since;
    }

    private int minutesOf(List<Integer> round) {
        int sum = 0;
        for (int i = 0; i < round.size(); i++) sum += stand + way(round.get(i), round.get((i + 1) % round.size()));
        return sum;
    }

    int round(int shelf, int what) {
        wantShelf(shelf);
        want(what == 0 || what == 1);
        List<Integer> round = roundOn(shelf);
        return what == 0 ? round.size() : minutesOf(round);
    }

    int first(int shelf, int post) {
        wantShelf(shelf);
        want(isPost(post));
        for (Dent d : dentsOf(roundOn(shelf))) if (d.post == post && d.minute <= 999) return d.minute;
        return NOT;
    }

    int by(int shelf, int minute, int what) {
        wantShelf(shelf);
        want(minute >= 0 && minute <= 999 && (what == 0 || what == 1));
        int last = NOT, many = 0;
        for (Dent d : dentsOf(roundOn(shelf))) {
            if (d.minute > minute) continue;
            last = d.post;
            many++;
        }
        return what == 0 ? last : many;
    }

    int unseen(int shelf, int post, int minute, int what) {
        wantShelf(shelf);
        want(isPost(post) && minute >= 0 && minute <= 999 && (what == 0 || what == 1));
        List<Dent> dents = dentsOf(roundOn(shelf));
        if (what == 0) return since(dents, post, minute);
        return seen(dents, post)[minute] ? 1 : 0;
    }

    int lost(int shelf, int post, int a, int b) {
        wantShelf(shelf);
        want(post == -1 || isPost(post));
        want(a >= 0 && a <= b && b <= 999);
        List<Integer> round = roundOn(shelf);
        List<Dent> dents = dentsOf(round);
        int sum = 0;
        for (int p = 0; p < yard.size(); p++) {
            if (post != -1 && post != p) continue;
            boolean[] seen = seen(dents, p);
            int[] last = new int[1000];
            Arrays.fill(last, -1);
            for (Dent d : dents) if (d.post == p && d.minute < 1000) last[d.minute] = d.minute;
            for (int m = 1; m < 1000; m++) if (last[m] < 0) last[m] = last[m - 1];
            Post q = yard.get(p);
            for (int m = a; m <= b; m++) {
                int u = last[m] < 0 ? m + 1 : m - last[m];
                if (seen[m]) continue;
                int w = lawText == null ? q.value * u / 10
                    : new NaiveLaw(lawText, q.value, u, m, q.due, p, round.size()).value();
                sum += w < 0 ? 0 : w > 99 ? 99 : w;
            }
        }
        return sum;
    }

    int red(int shelf, int hour) {
        wantShelf(shelf);
        want(hour >= 0 && hour <= 15);
        int bits = (1 << yard.size()) - 1;
        for (Dent d : dentsOf(roundOn(shelf))) if (d.minute / 60 == hour) bits &= ~(1 << d.post);
        return bits;
    }

    int gap(int shelf, int post) {
        wantShelf(shelf);
        want(isPost(post));
        return gapIn(roundOn(shelf), post);
    }

    /** Walks three whole turns, as what comes behind them only comes again. */
    private int gapIn(List<Integer> round, int post) {
        if (!round.contains(post)) return NOT;
        int minute = 0, longest = 0, last = 0;
        Integer here = null;
        for (int i = 0; i < 3 * round.size(); i++) {
            Integer next = round.get(i % round.size());
            minute += way(here, next);
            if (next == post) {
                longest = Math.max(longest, minute - last);
                last = minute;
            }
            minute += stand;
            here = next;
        }
        return longest;
    }

    int late(int shelf) {
        wantShelf(shelf);
        List<Integer> round = roundOn(shelf);
        int bits = 0;
        for (int p = 0; p < yard.size(); p++) {
            int g = gapIn(round, p);
            if (g == NOT || g > yard.get(p).due) bits |= 1 << p;
        }
        return bits;
    }

    private static void orders(List<Integer> left, List<Integer> taken, List<List<Integer>> into) {
        if (left.isEmpty()) into.add(new ArrayList<>(taken));
        for (Integer p : left) {
            List<Integer> rest = new ArrayList<>(left);
            rest.remove(p);
            taken.add(p);
            orders(rest, taken, into);
            taken.remove(taken.size() - 1);
        }
    }

    private static List<List<Integer>> ordersOf(List<Integer> members) {
        List<List<Integer>> all = new ArrayList<>();
        orders(members, new ArrayList<>(), all);
        return all;
    }

    private int tourMinutes(List<Integer> order) {
        Integer here = null;
        int minutes = 0;
        for (Integer p : order) {
            minutes += way(here, p) + stand;
            here = p;
        }
        return minutes + way(here, null);
    }

    private List<Integer> shortestOrder(int set) {
        List<Integer> members = new ArrayList<>(), best = null;
        for (int p = 0; p < 9; p++) if ((set >> p & 1) != 0) members.add(p);
        for (List<Integer> order : ordersOf(members)) {
            if (best == null || tourMinutes(order) < tourMinutes(best)) best = order;
        }
        return best;
    }

    private void wantSet(int set) {
        want(set >= 0 && set < 1 << yard.size());
    }

    int shortest(int set, int k) {
        wantSet(set);
        want(k >= -1);
        if (Integer.bitCount(set) > 7) return STATE;
        List<Integer> order = shortestOrder(set);
        if (k == -1) return tourMinutes(order);
        return k < order.size() ? order.get(k) : NOT;
    }

    int leftOut(int set, int what) {
        wantSet(set);
        want(what == 0 || what == 1);
        if (Integer.bitCount(set) > 7) return STATE;
        int best = NOT, least = NOT;
        for (int p = 8; p >= 0; p--) {
            if ((set >> p & 1) == 0) continue;
            int minutes = tourMinutes(shortestOrder(set ^ 1 << p));
            if (best == NOT || minutes <= least) {
                best = p;
                least = minutes;
            }
        }
        return what == 0 ? best : least;
    }

    int thief(int shelf, int post, int a, int n) {
        wantShelf(shelf);
        want(isPost(post) && a >= 0 && a <= 999 && n >= 1 && n <= 99);
        boolean[] seen = seen(dentsOf(roundOn(shelf)), post);
        for (int m = a; m <= 999; m++) if (free(seen, m, n)) return m;
        return NOT;
    }

    int safe(int shelf, int n) {
        wantShelf(shelf);
        want(n >= 1 && n <= 99);
        roundOn(shelf);
        int bits = 0;
        for (int p = 0; p < yard.size(); p++) if (thief(shelf, p, 0, n) == NOT) bits |= 1 << p;
        return bits;
    }

    private static int twoGap(List<Dent> dents, int post, int o) {
        List<Integer> minutes = new ArrayList<>();
        for (Dent d : dents) {
            if (d.post != post) continue;
            if (d.minute >= o && d.minute <= 999) minutes.add(d.minute);
            if (d.minute + o <= 999) minutes.add(d.minute + o);
        }
        Collections.sort(minutes);
        int widest = NOT;
        for (int i = 1; i < minutes.size(); i++) widest = Math.max(widest, minutes.get(i) - minutes.get(i - 1));
        return widest;
    }

    int two(int shelf, int post, int o) {
        wantShelf(shelf);
        want(post == -1 || isPost(post) && o >= 0 && o <= 99);
        List<Integer> round = roundOn(shelf);
        List<Dent> dents = dentsOf(round);
        if (post != -1) return twoGap(dents, post, o);
        int best = 0, least = 1 << 30;
        for (int later = 0; later <= 99; later++) {
            int greatest = NOT;
            for (Integer p : new java.util.TreeSet<>(round)) greatest = Math.max(greatest, twoGap(dents, p, later));
            if (greatest != NOT && greatest < least) {
                least = greatest;
                best = later;
            }
        }
        return best;
    }

    // ---- forth or back, papers

    int success(int shelf, int post, int m, int pn) {
        wantShelf(shelf);
        want(isPost(post) && m >= 0 && m <= 599 && pn >= 0 && pn / 100 <= 12 && pn % 100 >= 1);
        List<Integer> round = roundOn(shelf);
        return chances(round, post, pn % 100, pn / 100)[m];
    }

    private int[] chances(List<Integer> round, int post, int n, int p) {
        boolean[] forth = seen(dentsOf(round), post), back = seen(dentsOf(turned(round)), post);
        int[] chances = new int[600];
        for (int m = 0; m < 600; m++) {
            if (free(forth, m, n)) chances[m] += p;
            if (free(back, m, n)) chances[m] += 12 - p;
        }
        return chances;
    }

    int bestMinute(int shelf, int post, int pn, int what) {
        wantShelf(shelf);
        want(isPost(post) && pn >= 0 && pn / 100 <= 12 && pn % 100 >= 1 && (what == 0 || what == 1));
        int[] chances = chances(roundOn(shelf), post, pn % 100, pn / 100);
        int best = 599;
        for (int m = 598; m >= 0; m--) if (chances[m] >= chances[best]) best = m;
        return what == 0 ? best : chances[best];
    }

    int mix(int shelf, int post, int n) {
        wantShelf(shelf);
        want(isPost(post) && n >= 1 && n <= 99);
        List<Integer> round = roundOn(shelf);
        int best = -1, least = 99;
        for (int p = 0; p <= 12; p++) {
            int greatest = Arrays.stream(chances(round, post, n, p)).max().getAsInt();
            if (greatest < least) {
                least = greatest;
                best = p;
            }
        }
        return best;
    }

    private short[] paperOn(int shelf) {
        if (shelves[shelf] == null) throw new Refusal(-11);
        if (!(shelves[shelf] instanceof short[])) throw new Refusal(-12);
        return (short[]) shelves[shelf];
    }

    /** How much later than needed; null: it cannot be. */
    private Integer slack(short[] row, int k) {
        if (2 * k + 1 >= row.length || !isPost(row[2 * k])) return null;
        int needed;
        if (k == 0) {
            needed = way(null, (int) row[0]);
        } else {
            if (!isPost(row[2 * k - 2])) return null;
            needed = row[2 * k - 1] + stand + way((int) row[2 * k - 2], (int) row[2 * k]);
        }
        return row[2 * k + 1] < needed ? null : row[2 * k + 1] - needed;
    }

    int paper(int shelf, int what) {
        wantShelf(shelf);
        want(what >= 0 && what <= 3);
        short[] row = paperOn(shelf);
        int firstBad = NOT, slept = 0, most = 0, where = NOT, forged = 0;
        for (int k = 0; 2 * k < row.length; k++) {
            Integer s = slack(row, k);
            if (s == null) {
                forged++;
                if (firstBad == NOT) firstBad = k;
            } else if (firstBad == NOT) {
                slept += s;
                if (s > most) {
                    most = s;
                    where = k;
                }
            }
        }
        return what == 0 ? firstBad : what == 1 ? slept : what == 2 ? where : forged;
    }

    private boolean makes(List<Integer> round, short[] paper) {
        List<Dent> dents = dentsOf(round);
        if (paper.length % 2 != 0 || paper.length / 2 > dents.size()) return false;
        for (int k = 0; k < paper.length / 2; k++) {
            if (dents.get(k).post != paper[2 * k] || dents.get(k).minute != paper[2 * k + 1]) return false;
        }
        return true;
    }

    int which(int rp) {
        want(rp >= 0 && rp <= 59 && rp % 10 <= 5);
        if (shelves[rp / 10] == null || shelves[rp % 10] == null) return -11;
        List<Integer> round = roundOn(rp / 10);
        short[] paper = paperOn(rp % 10);
        return (makes(round, paper) ? 1 : 0) + (makes(turned(round), paper) ? 2 : 0);
    }

    int fit(int shelf, int k) {
        wantShelf(shelf);
        want(k >= -1);
        short[] paper = paperOn(shelf);
        if (yard.size() > 6) return STATE;
        List<Integer> all = new ArrayList<>(), first = null;
        for (int p = 0; p < yard.size(); p++) all.add(p);
        int many = 0;
        for (List<Integer> order : ordersOf(all)) {
            if (!makes(order, paper)) continue;
            if (many++ == 0) first = order;
        }
        if (k == -1) return many;
        return first == null || k >= first.size() ? NOT : first.get(k);
    }

    int hang(int d, int what) {
        want(d >= 0 && d <= 30 && (what == 0 || what == 1));
        int best = NOT, farthest = NOT;
        for (int y = 15; y >= 0; y--) {
            for (int x = 15; x >= 0; x--) {
                if (Math.abs(x - gateX) + Math.abs(y - gateY) > d) continue;
                int near = yard.isEmpty() ? 0 : 99;
                for (Post p : yard) near = Math.min(near, Math.abs(x - p.x) + Math.abs(y - p.y));
                if (near >= farthest) {
                    farthest = near;
                    best = 16 * y + x;
                }
            }
        }
        return what == 0 ? best : farthest;
    }

    int drawn(int seed, int nm, int what) {
        want(nm >= 0 && nm / 10 >= 1 && nm / 10 <= 30 && nm % 10 >= 1 && (what == 0 || what == 1));
        int n = yard.size();
        if (n == 0) return 0;
        int z = seed, together = 0, greatest = 0;
        for (int night = 0; night < nm / 10; night++) {
            Integer here = null;
            int minutes = 0;
            for (int r = 0; r < nm % 10; r++) {
                z = z * 1103515245 + 12345;
                int p = (z >>> 8) % n;
                boolean down = ((z >>> 16) & 1) == 1;
                for (int i = 0; i < n; i++) {
                    minutes += way(here, p) + stand;
                    here = p;
                    p = down ? (p == 0 ? n - 1 : p - 1) : (p == n - 1 ? 0 : p + 1);
                }
            }
            together += minutes;
            greatest = Math.max(greatest, minutes);
        }
        return what == 0 ? together : greatest;
    }

    // ---- in deed

    int walk(int post) {
        want(isPost(post));
        int way = way(at, post);
        if (led[4] + way + stand > 9999) return STATE;
        led[0] += way;
        led[1]++;
        led[2] += stand;
        led[4] += way + stand;
        yard.get(post).dents++;
        at = post;
        return led[4];
    }

    int waits(int n) {
        want(n >= 1 && n <= 999);
        if (led[4] + n > 9999) return STATE;
        led[3] += n;
        return led[4] += n;
    }

    int home() {
        int way = way(at, null);
        if (led[4] + way > 9999) return STATE;
        led[0] += way;
        at = null;
        return led[4] += way;
    }

    int led(int what) {
        return what < 0 || what > 4 ? BAD : led[what];
    }

    int image() {
        image = new int[15];
        System.arraycopy(led, 0, image, 0, 5);
        image[5] = at == null ? -1 : at;
        for (int p = 0; p < yard.size(); p++) image[6 + p] = yard.get(p).dents;
        return led[4];
    }

    int back() {
        if (image == null) return STATE;
        led = Arrays.copyOf(image, 5);
        at = image[5] < 0 ? null : (Integer) image[5];
        for (int p = 0; p < yard.size(); p++) yard.get(p).dents = image[6 + p];
        return led[4];
    }

    int undo() {
        if (undoable.isEmpty()) return STATE;
        int[] c = undoable.removeLast();
        set(c[0], c[1], c[2]);
        redoable.addLast(c);
        return undoable.size();
    }

    int redo() {
        if (redoable.isEmpty()) return STATE;
        int[] c = redoable.removeLast();
        set(c[0], c[1], c[3]);
        undoable.addLast(c);
        return redoable.size();
    }

    // ---- acts, shelves

    int body(int kind) {
        want(kind >= 0 && kind <= 7);
        if (bodies.size() == 50) return FULL;
        bodies.add(NaiveKeys.make(kind, bodies.size()));
        return bodies.size() - 1;
    }

    int act(int body, int act, int x) {
        ran = new ArrayList<>();
        if (body < 0 || body >= bodies.size() || act < 0 || act > 3) return 0;
        NaiveKeys.Key key = bodies.get(body);
        key.ran = ran;
        return act == 0 ? key.turns(x) : act == 1 ? key.sees(x) : act == 2 ? key.fears(x) : key.tells(x);
    }

    int trace(int i) {
        return i < 0 || i >= Math.min(24, ran.size()) ? BAD : ran.get(i);
    }

    int keep(int shelf, int body) {
        wantShelf(shelf);
        want(body >= -1 && body < bodies.size());
        shelves[shelf] = body == -1 ? null : bodies.get(body);
        return 1;
    }

    int row(int shelf, int sort, int n) {
        wantShelf(shelf);
        want(sort >= 0 && sort <= 4 && n <= 60);
        if (n < 0) return -14;
        switch (sort) {
            case 0: shelves[shelf] = new byte[n]; break;
            case 1: shelves[shelf] = new short[n]; break;
            case 2: shelves[shelf] = new int[n]; break;
            case 3: shelves[shelf] = new long[n]; break;
            default: shelves[shelf] = new boolean[n];
        }
        return 1;
    }

    private void wantPlace(int shelf, int i) {
        wantShelf(shelf);
        if (shelves[shelf] == null) throw new Refusal(-11);
        if (!shelves[shelf].getClass().isArray()) throw new Refusal(-12);
        if (i < 0 || i >= java.lang.reflect.Array.getLength(shelves[shelf])) throw new Refusal(-13);
    }

    int put(int shelf, int i, long v) {
        wantPlace(shelf, i);
        Object row = shelves[shelf];
        if (row instanceof byte[]) ((byte[]) row)[i] = (byte) v;
        if (row instanceof short[]) ((short[]) row)[i] = (short) v;
        if (row instanceof int[]) ((int[]) row)[i] = (int) v;
        if (row instanceof long[]) ((long[]) row)[i] = v;
        if (row instanceof boolean[]) ((boolean[]) row)[i] = v != 0;
        return 1;
    }

    long element(int shelf, int i) {
        try {
            wantPlace(shelf, i);
        } catch (Refusal e) {
            return Long.MIN_VALUE;
        }
        Object row = shelves[shelf];
        if (row instanceof boolean[]) return ((boolean[]) row)[i] ? 1 : 0;
        return java.lang.reflect.Array.getLong(row, i);
    }

    int shift(int shelf, int i, int other, int j, int n) {
        wantShelf(shelf);
        wantShelf(other);
        try {
            System.arraycopy(shelves[shelf], i, shelves[other], j, n);
            return n;
        } catch (NullPointerException e) {
            return -11;
        } catch (ArrayStoreException e) {
            return -12;
        } catch (IndexOutOfBoundsException e) {
            return -13;
        }
    }

    int taken(int shelf, int k) {
        wantShelf(shelf);
        want(k >= 0 && k <= 7);
        if (shelves[shelf] == null) return -11;
        return NaiveKeys.KINDS[k].isInstance(shelves[shelf]) ? ((NaiveKeys.Key) shelves[shelf]).kind : -12;
    }

    int count(int what) {
        switch (what) {
            case 0: return yard.size();
            case 1: return tape.length();
            case 2: return undoable.size();
            case 3: return bodies.size();
            case 4: return ran.size();
            default: return BAD;
        }
    }
}
