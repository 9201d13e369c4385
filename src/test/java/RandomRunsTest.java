import java.util.ArrayList;
import java.util.Collections;
import java.util.List;
import java.util.Random;
import java.util.function.LongSupplier;

/** Long runs of drawn calls, each held against NaiveYard. Arguments: how many runs, the first seed. */
public final class RandomRunsTest {
    private static final int CALLS = 512;
    private static int wrong;

    private final Random draw;
    private final long seed;
    private final NineKeysRound real = new NineKeysRound();
    private final NaiveYard naive = new NaiveYard();
    private final List<String> calls = new ArrayList<>();

    private RandomRunsTest(long seed) {
        this.seed = seed;
        this.draw = new Random(seed);
    }

    public static void main(String[] args) {
        int runs = args.length > 0 ? Integer.parseInt(args[0]) : 60;
        long first = args.length > 1 ? Long.parseLong(args[1]) : 1;
        for (int i = 0; i < runs && wrong < 20; i++) new RandomRunsTest(first + i).run();
        System.out.println(wrong == 0 ? runs + " drawn runs are as due" : wrong + " drawn answers are not as due");
        if (wrong != 0) System.exit(1);
    }

    private void run() {
        int start = draw.nextInt(10);
        for (int i = 0; i < start; i++) post();
        if (draw.nextInt(3) == 0) {
            mend(0, 7, draw.nextInt(2));
            mend(0, 6, 1 + draw.nextInt(2));
        }
        while (calls.size() < CALLS && wrong < 20) step();
    }

    private boolean check(String call, LongSupplier got, LongSupplier want) {
        if (calls.size() >= CALLS) return true;
        calls.add(call);
        long due;
        try {
            due = want.getAsLong();
        } catch (NaiveYard.Refusal e) {
            due = e.answer;
        }
        long answer = got.getAsLong();
        if (answer == due) return true;
        wrong++;
        System.out.println("seed " + seed + ", call " + calls.size() + ": " + call + " answered " + answer + ", due is " + due);
        return false;
    }

    // ---- numbers

    /** Mostly from a range, now and then at or beyond its ends. */
    private int near(int least, int most) {
        switch (draw.nextInt(24)) {
            case 0: return least - 1;
            case 1: return most + 1;
            case 2: return least;
            case 3: return most;
            case 4: return draw.nextInt(6) == 0 ? draw.nextInt() : least;
            case 5: return draw.nextInt(6) == 0 ? Integer.MIN_VALUE : most;
            case 6: return draw.nextInt(6) == 0 ? Integer.MAX_VALUE : least;
            default: return least + draw.nextInt(most - least + 1);
        }
    }

    private int size() {
        return naive.count(0);
    }

    private int aPost() {
        return near(0, Math.max(0, size() - 1));
    }

    private int aRound() {
        return draw.nextInt(8) == 0 ? near(0, 5) : draw.nextInt(2);
    }

    private int aPaper() {
        return draw.nextInt(8) == 0 ? near(0, 5) : 2 + draw.nextInt(2);
    }

    private int aMinute() {
        return draw.nextBoolean() ? near(0, 999) : draw.nextInt(200);
    }

    private int anXy() {
        if (draw.nextInt(12) == 0) return near(0, 1600);
        int wide = draw.nextInt(3) == 0 ? 15 : 4;
        return 100 * draw.nextInt(wide + 1) + draw.nextInt(wide + 1);
    }

    private long aLong() {
        return draw.nextInt(3) == 0 ? draw.nextLong() : draw.nextInt(40) - 10;
    }

    // ---- steps

    private void step() {
        switch (draw.nextInt(12)) {
            case 0: yardStep(); break;
            case 1: roundStep(); break;
            case 2: paperStep(); break;
            case 3: lawStep(); break;
            case 4: deedStep(); break;
            case 5: keyStep(); break;
            case 6: shelfStep(); break;
            case 7: case 8: askRound(); break;
            case 9: askSets(); break;
            case 10: askOdds(); break;
            default: askPaper();
        }
    }

    private void post() {
        int xy = anXy();
        check("post(" + xy + ")", () -> real.post(xy), () -> naive.post(xy));
    }

    private void mend(int number, int what, int v) {
        check("mend(" + number + ", " + what + ", " + v + ")", () -> real.mend(number, what, v), () -> naive.mend(number, what, v));
    }

    private void yardStep() {
        int k = draw.nextInt(8);
        if (k == 0 && draw.nextInt(3) == 0) {
            post();
        } else if (k < 4) {
            int what = near(0, 7);
            int number = what > 3 && draw.nextInt(8) != 0 ? 0 : aPost();
            mend(number, what, what == 3 && draw.nextBoolean() ? near(1, 999) : near(0, draw.nextInt(9) == 0 ? 15 : 3));
        } else if (k == 4) {
            int what = near(0, 8);
            int number = what > 3 && what < 8 && draw.nextInt(8) != 0 ? 0 : aPost();
            check("of(" + number + ", " + what + ")", () -> real.of(number, what), () -> naive.of(number, what));
        } else if (k == 5) {
            check("undo()", real::undo, naive::undo);
        } else if (k == 6) {
            check("redo()", real::redo, naive::redo);
        } else {
            postsStep();
        }
        for (int w = 0; w < 8 && draw.nextInt(6) == 0; w++) {
            int what = w;
            check("of(0, " + what + ")", () -> real.of(0, what), () -> naive.of(0, what));
        }
    }

    private void postsStep() {
        int shelf = near(0, 5), n = near(1, 9), i = near(0, 12);
        if (draw.nextInt(3) == 0) {
            int length = draw.nextInt(12);
            row(shelf, 0, length);
            for (int p = 0; p < length; p++) put(shelf, p, draw.nextInt(15) == 0 ? -1 : draw.nextInt(10));
            i = near(0, 3);
        }
        int from = i;
        check("posts(" + shelf + ", " + from + ", " + n + ")", () -> real.posts(shelf, from, n), () -> naive.posts(shelf, from, n));
        count();
    }

    private void row(int shelf, int sort, int n) {
        check("row(" + shelf + ", " + sort + ", " + n + ")", () -> real.row(shelf, sort, n), () -> naive.row(shelf, sort, n));
    }

    private void put(int shelf, int i, long v) {
        check("put(" + shelf + ", " + i + ", " + v + ")", () -> real.put(shelf, i, v), () -> naive.put(shelf, i, v));
    }

    private void count() {
        int what = near(0, 4);
        check("count(" + what + ")", () -> real.count(what), () -> naive.count(what));
    }

    private void roundStep() {
        int shelf = draw.nextInt(2);
        int length = draw.nextInt(10) == 0 ? 15 + draw.nextInt(15) : draw.nextInt(8);
        row(shelf, 0, length);
        int few = Math.max(1, draw.nextBoolean() ? size() : Math.min(2, size()));
        for (int i = 0; i < length; i++) put(shelf, i, draw.nextInt(40) == 0 ? aLong() : draw.nextInt(few));
    }

    /** A paper as a drawn order of the posts, or a round, would make it, sometimes falsified. */
    private void paperStep() {
        List<Integer> way = new ArrayList<>();
        int from = draw.nextInt(2);
        if (draw.nextBoolean()) {
            for (int p = 0; p < size(); p++) way.add(p);
            Collections.shuffle(way, draw);
        } else {
            for (int i = 0; i < 20; i++) {
                long p = naive.element(from, i);
                if (p < 0 || p >= size()) break;
                way.add((int) p);
            }
            if (draw.nextBoolean()) Collections.reverse(way);
        }
        int shelf = 2 + draw.nextInt(2);
        int twos = way.isEmpty() ? draw.nextInt(3) : draw.nextInt(9);
        int odd = draw.nextInt(8) == 0 ? 1 : 0;
        row(shelf, 1, 2 * twos + odd);
        int minute = 0, x = naive.of(0, 4), y = naive.of(0, 5);
        int slips = draw.nextInt(3) == 0 ? 4 : 1000;
        for (int k = 0; k < twos; k++) {
            int p = way.isEmpty() ? 0 : way.get(k % way.size());
            if (way.isEmpty()) {
                put(shelf, 2 * k, draw.nextInt(3) - 1);
                continue;
            }
            minute += (Math.abs(naive.of(p, 0) - x) + Math.abs(naive.of(p, 1) - y)) * naive.of(0, 6);
            x = naive.of(p, 0);
            y = naive.of(p, 1);
            if (draw.nextInt(slips) == 0) minute += draw.nextInt(5) - 1;
            put(shelf, 2 * k, draw.nextInt(4 * slips) == 0 ? draw.nextInt(12) - 1 : p);
            put(shelf, 2 * k + 1, minute);
            minute += naive.of(0, 7);
        }
    }

    // ---- the law

    private void lawStep() {
        String text = draw.nextInt(40) == 0 ? "v".repeat(1 + draw.nextInt(125)) : lines();
        if (draw.nextInt(4) == 0 && !text.isEmpty()) {
            int i = draw.nextInt(text.length());
            String signs = "vumdpn0123456789|&<=>+-*/%!()?; xyz" + (char) 200 + (char) 0;
            text = text.substring(0, i) + signs.charAt(draw.nextInt(signs.length())) + text.substring(i + draw.nextInt(2));
        }
        if (draw.nextInt(15) == 0) text = text.substring(0, draw.nextInt(text.length() + 1));
        for (int i = 0; i < text.length(); i++) {
            int letter = draw.nextInt(300) == 0 ? near(0, 255) : text.charAt(i);
            check("feed(" + letter + ")", () -> real.feed(letter), () -> naive.feed(letter));
        }
        if (draw.nextInt(10) == 0) count();
        check("law() of " + text, real::law, naive::law);
        askLost();
    }

    private String lines() {
        StringBuilder text = new StringBuilder(line());
        while (draw.nextInt(3) == 0) text.append(';').append(line());
        return text.length() > 60 ? text.substring(0, 60) : text.toString();
    }

    private String line() {
        return draw.nextInt(3) == 0 ? term(2) + "?" + term(2) : term(3);
    }

    private String term(int depth) {
        StringBuilder text = new StringBuilder(operand(depth));
        while (draw.nextInt(2) == 0) text.append("|&<=>+-*/%".charAt(draw.nextInt(10))).append(operand(depth));
        return text.toString();
    }

    private String operand(int depth) {
        int k = draw.nextInt(depth > 0 ? 9 : 6);
        if (k < 4) return "" + "vumdpn".charAt(draw.nextInt(6));
        if (k < 6) return "" + draw.nextInt(new int[] {3, 20, 10000}[draw.nextInt(3)]);
        if (k == 6) return "(" + term(depth - 1) + ")";
        if (draw.nextInt(12) == 0) return "!-".repeat(1 + draw.nextInt(4)) + "v";
        return (k == 7 ? "!" : "-") + operand(depth - 1);
    }

    // ---- deeds, keys, shelves

    private void deedStep() {
        int k = draw.nextInt(14);
        if (k < 5) {
            int p = aPost();
            check("walk(" + p + ")", () -> real.walk(p), () -> naive.walk(p));
        } else if (k < 7) {
            int n = near(1, 999);
            check("waits(" + n + ")", () -> real.waits(n), () -> naive.waits(n));
        } else if (k == 7) {
            check("home()", real::home, naive::home);
        } else if (k < 10) {
            int what = near(0, 4);
            check("led(" + what + ")", () -> real.led(what), () -> naive.led(what));
        } else if (k == 10 && draw.nextInt(3) == 0) {
            check("image()", real::image, naive::image);
        } else if (k == 11) {
            check("back()", real::back, naive::back);
        } else {
            int p = aPost();
            check("of(" + p + ", 8)", () -> real.of(p, 8), () -> naive.of(p, 8));
        }
    }

    private void keyStep() {
        if (draw.nextInt(4) == 0) {
            int kind = near(0, 7);
            check("body(" + kind + ")", () -> real.body(kind), () -> naive.body(kind));
            return;
        }
        int body = near(0, Math.max(0, naive.count(3) - 1)), act = near(0, 3), x = draw.nextInt(4) == 0 ? draw.nextInt() : near(-9, 9);
        check("act(" + body + ", " + act + ", " + x + ")", () -> real.act(body, act, x), () -> naive.act(body, act, x));
        check("count(4)", () -> real.count(4), () -> naive.count(4));
        int i = near(0, Math.max(0, naive.count(4) - 1));
        check("trace(" + i + ")", () -> real.trace(i), () -> naive.trace(i));
    }

    private void shelfStep() {
        int shelf = near(0, 5), i = near(0, 6), k = draw.nextInt(10);
        long v = aLong();
        if (k == 0) {
            int body = draw.nextInt(3) == 0 ? -1 : near(-1, Math.max(0, naive.count(3) - 1));
            int to = draw.nextInt(6) == 0 ? shelf : 4;
            check("keep(" + to + ", " + body + ")", () -> real.keep(to, body), () -> naive.keep(to, body));
        } else if (k == 1) {
            row(draw.nextInt(4) == 0 ? shelf : 5, near(0, 4), draw.nextInt(3) == 0 ? near(0, 60) : near(0, 7));
        } else if (k < 4) {
            put(shelf, i, v);
        } else if (k < 6) {
            check("element(" + shelf + ", " + i + ")", () -> real.element(shelf, i), () -> naive.element(shelf, i));
        } else if (k < 8) {
            int kind = near(0, 7);
            check("taken(" + shelf + ", " + kind + ")", () -> real.taken(shelf, kind), () -> naive.taken(shelf, kind));
        } else {
            int other = draw.nextBoolean() ? shelf : near(0, 5), j = near(0, 6), n = near(0, 4);
            check("shift(" + shelf + ", " + i + ", " + other + ", " + j + ", " + n + ")",
                () -> real.shift(shelf, i, other, j, n), () -> naive.shift(shelf, i, other, j, n));
            for (int p = 0; p < 12; p++) {
                int place = p;
                if (draw.nextInt(3) == 0) check("element(" + other + ", " + place + ")", () -> real.element(other, place), () -> naive.element(other, place));
            }
        }
    }

    // ---- questions

    private void askLost() {
        int shelf = aRound(), p = draw.nextInt(3) == 0 ? -1 : aPost();
        int a = aMinute(), b = draw.nextInt(6) == 0 ? aMinute() : a + draw.nextInt(100);
        check("lost(" + shelf + ", " + p + ", " + a + ", " + b + ")", () -> real.lost(shelf, p, a, b), () -> naive.lost(shelf, p, a, b));
    }

    private void askRound() {
        int shelf = aRound(), p = aPost(), minute = aMinute(), what = near(0, 1), n = draw.nextBoolean() ? near(1, 99) : 1 + draw.nextInt(12);
        switch (draw.nextInt(12)) {
            case 0: check("round(" + shelf + ", " + what + ")", () -> real.round(shelf, what), () -> naive.round(shelf, what)); break;
            case 1: check("first(" + shelf + ", " + p + ")", () -> real.first(shelf, p), () -> naive.first(shelf, p)); break;
            case 2: check("by(" + shelf + ", " + minute + ", " + what + ")", () -> real.by(shelf, minute, what), () -> naive.by(shelf, minute, what)); break;
            case 3: check("unseen(" + shelf + ", " + p + ", " + minute + ", " + what + ")",
                () -> real.unseen(shelf, p, minute, what), () -> naive.unseen(shelf, p, minute, what)); break;
            case 4: askLost(); break;
            case 5: {
                int hour = near(0, 15);
                check("red(" + shelf + ", " + hour + ")", () -> real.red(shelf, hour), () -> naive.red(shelf, hour));
                break;
            }
            case 6: check("gap(" + shelf + ", " + p + ")", () -> real.gap(shelf, p), () -> naive.gap(shelf, p)); break;
            case 7: check("late(" + shelf + ")", () -> real.late(shelf), () -> naive.late(shelf)); break;
            case 8: check("thief(" + shelf + ", " + p + ", " + minute + ", " + n + ")",
                () -> real.thief(shelf, p, minute, n), () -> naive.thief(shelf, p, minute, n)); break;
            case 9: check("safe(" + shelf + ", " + n + ")", () -> real.safe(shelf, n), () -> naive.safe(shelf, n)); break;
            default: {
                int post = draw.nextInt(4) == 0 ? -1 : p, o = near(0, 99);
                check("two(" + shelf + ", " + post + ", " + o + ")", () -> real.two(shelf, post, o), () -> naive.two(shelf, post, o));
            }
        }
    }

    private void askSets() {
        int full = (1 << size()) - 1, what = near(0, 1), k = near(-1, 8);
        int set = draw.nextInt(4) == 0 ? near(0, full) : full & draw.nextInt(512) & draw.nextInt(512);
        if (draw.nextInt(30) == 0) k = near(-1, 8);
        int kth = k;
        switch (draw.nextInt(4)) {
            case 0: check("shortest(" + set + ", " + kth + ")", () -> real.shortest(set, kth), () -> naive.shortest(set, kth)); break;
            case 1: check("leftOut(" + set + ", " + what + ")", () -> real.leftOut(set, what), () -> naive.leftOut(set, what)); break;
            case 2: {
                int d = near(0, 30);
                check("hang(" + d + ", " + what + ")", () -> real.hang(d, what), () -> naive.hang(d, what));
                break;
            }
            default: {
                int seed = draw.nextInt(), nm = draw.nextInt(4) == 0 ? near(10, 310) : 10 * (1 + draw.nextInt(30)) + 1 + draw.nextInt(9);
                check("drawn(" + seed + ", " + nm + ", " + what + ")", () -> real.drawn(seed, nm, what), () -> naive.drawn(seed, nm, what));
            }
        }
    }

    private void askOdds() {
        int shelf = aRound(), p = aPost(), m = draw.nextBoolean() ? near(0, 599) : draw.nextInt(60), what = near(0, 1);
        int n = draw.nextInt(3) == 0 ? near(1, 99) : 1 + draw.nextInt(20), pn = draw.nextInt(6) == 0 ? near(1, 1299) : 100 * draw.nextInt(13) + n;
        switch (draw.nextInt(3)) {
            case 0: check("success(" + shelf + ", " + p + ", " + m + ", " + pn + ")",
                () -> real.success(shelf, p, m, pn), () -> naive.success(shelf, p, m, pn)); break;
            case 1: check("bestMinute(" + shelf + ", " + p + ", " + pn + ", " + what + ")",
                () -> real.bestMinute(shelf, p, pn, what), () -> naive.bestMinute(shelf, p, pn, what)); break;
            default: check("mix(" + shelf + ", " + p + ", " + n + ")", () -> real.mix(shelf, p, n), () -> naive.mix(shelf, p, n));
        }
    }

    private void askPaper() {
        int shelf = aPaper(), what = near(0, 3), k = near(-1, 6);
        int rp = draw.nextInt(6) == 0 ? near(0, 60) : 10 * aRound() + shelf;
        switch (draw.nextInt(3)) {
            case 0: check("paper(" + shelf + ", " + what + ")", () -> real.paper(shelf, what), () -> naive.paper(shelf, what)); break;
            case 1: check("which(" + rp + ")", () -> real.which(rp), () -> naive.which(rp)); break;
            default: check("fit(" + shelf + ", " + k + ")", () -> real.fit(shelf, k), () -> naive.fit(shelf, k));
        }
    }
}
