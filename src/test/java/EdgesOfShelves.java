import java.util.ArrayList;
import java.util.List;

/** Edges of part 5 of the terms: keys, shelves, refusals, and what a refused call leaves as it was. */
final class EdgesOfShelves extends Edges {
    private EdgesOfShelves() {
    }

    static void run() {
        keys();
        rows();
        refusals();
        postsFromRows();
        answers();
        edge("part 5", "What is answered so changes nothing", EdgesOfShelves::refusedCallsChangeNothing);
    }

    private static void keys() {
        edge("part 5", "KEYS' ways are kept by call as BODIES 0 .. 49", () -> {
            NineKeysRound x = new NineKeysRound();
            for (int i = 0; i < 50; i++) due("body", x.body(7 - i % 8), i);
            due("a fifty-first", x.body(0), FULL);
            due("the last one, a DICE, turns", x.act(49, 0, 1), (1 + 49) * 2);
            due("there is no such", x.act(50, 0, 1), 0);
        });
        edge("part 5", "ACTS with x (an int that wraps)", () -> {
            NineKeysRound x = new NineKeysRound();
            for (int kind = 0; kind < 8; kind++) x.body(kind);
            due("turns", x.act(1, 0, TOO_GREAT), TOO_SMALL + 3);
            due("sees", x.act(0, 1, TOO_GREAT), -2);
            due("the least int stays", x.act(0, 1, 1 << 30), TOO_SMALL);
            due("its minus, too", x.act(2, 1, (1 << 30) - 2), TOO_SMALL);
            due("x and 1", x.act(3, 1, TOO_GREAT), -2 * (TOO_SMALL + 3));
            due("three times", x.act(3, 2, TOO_GREAT), (TOO_GREAT ^ 3) * 3);
        });
        edge("part 5", "the body of its own KIND, or of the next KIND above that has one", () -> {
            NineKeysRound x = new NineKeysRound();
            for (int kind = 0; kind < 8; kind++) x.body(kind);
            // A SLEEP has neither turns nor fears: DENT's, two above, and PAPER's.
            ran(x, 7, 0, 20, 1);
            ran(x, 7, 2, 50, 11, 20, 1);
            // KEY's sees runs the turns of a DICE; a THIEF's tells the sees and fears of a DOG.
            ran(x, 6, 1, 10, 70, 1);
            ran(x, 5, 3, 60, 2, 41, 30, 10, 1, 40, 11);
            ran(x, 0, 3, 2, 10, 1, 11);
        });
        edge("part 5", "super: from the KIND above the body's on", () -> {
            NineKeysRound x = new NineKeysRound();
            for (int kind = 0; kind < 8; kind++) x.body(kind);
            // The body is SLEEP's, a PAPER has none, nor a DENT: KEY's.
            ran(x, 7, 1, 80, 10, 20, 1, 50, 11, 20, 1);
            // The body is DOG's though the KEY is a THIEF: LAMP's, then KEY's.
            ran(x, 5, 1, 41, 30, 10, 1);
            ran(x, 5, 2, 40, 11);
        });
        edge("part 5", "numbers of the bodies that ran in the latest act(), as they began; the first 24 are kept", () -> {
            NineKeysRound x = new NineKeysRound();
            x.body(7);
            x.act(0, 3, 0);
            int[] longest = {81, 2, 80, 10, 20, 1, 50, 11, 20, 1, 50, 11, 20, 1};
            due("the most that run", x.count(4), 14);
            for (int i = 0; i < 14; i++) due("the longest", x.trace(i), longest[i]);
            allBad("behind its end", x.trace(14), x.trace(23), x.trace(24), x.trace(-1));
            x.act(0, 2, 0);
            due("the latest alone", x.count(4), 4);
            due("its end", x.trace(4), BAD);
        });
    }

    private static void ran(NineKeysRound x, int key, int act, int... want) {
        x.act(key, act, 5);
        due("how many ran of act " + act + " of " + key, x.count(4), want.length);
        for (int i = 0; i < want.length; i++) due("body " + i + " of act " + act + " of " + key, x.trace(i), want[i]);
    }

    private static void rows() {
        edge("part 5", "SHELVES 0 .. 5 each hold nothing (at first)", () -> {
            NineKeysRound x = new NineKeysRound();
            for (int shelf = 0; shelf < 6; shelf++) due("at first", x.put(shelf, 0, 1), -11);
            for (int shelf = 0; shelf < 6; shelf++) due("a row on each", x.row(shelf, 2, shelf), 1);
            for (int shelf = 1; shelf < 6; shelf++) due("of its own", x.put(shelf, shelf - 1, shelf), 1);
            for (int shelf = 0; shelf < 6; shelf++) due("and no longer", x.put(shelf, shelf, 9), -13);
            for (int shelf = 1; shelf < 6; shelf++) due("with its own", x.element(shelf, shelf - 1), shelf);
            allBad("no such", x.row(-1, 0, 1), x.row(6, 0, 1), x.put(6, 0, 1), x.keep(6, -1), x.taken(6, 0), x.row(TOO_SMALL, 0, 1));
        });
        edge("part 5", "of 0 .. 60 elements, 0 at first (false)", () -> {
            NineKeysRound x = new NineKeysRound();
            for (int sort = 0; sort < 5; sort++) {
                due("60", x.row(0, sort, 60), 1);
                for (int i = 0; i < 60; i++) due("0 at first", x.element(0, i), 0);
                due("no 61st", x.element(0, 60), Long.MIN_VALUE);
                for (int i = 0; i < 60; i++) x.put(0, i, -1);
                due("61", x.row(0, sort, 61), BAD);
                due("it stays", x.element(0, 59), sort == 4 ? 1 : -1);
                due("anew", x.row(0, sort, 60), 1);
                due("0 again", x.element(0, 59), 0);
                due("none", x.row(0, sort, 0), 1);
                due("no first", x.element(0, 0), Long.MIN_VALUE);
            }
        });
        edge("part 5", "what is put in keeps its lowest bits (a boolean: whether it is not 0; 1 or 0)", () -> {
            NineKeysRound x = new NineKeysRound();
            kept(x, 0, 127, 127, 128, -128, 255, -1, 256, 0, -129, 127, Long.MIN_VALUE, 0);
            kept(x, 1, 32767, 32767, 32768, -32768, 65535, -1, 65536, 0, -32769, 32767, Long.MAX_VALUE, -1);
            kept(x, 2, TOO_GREAT, TOO_GREAT, 1L << 31, TOO_SMALL, (1L << 32) - 1, -1, 1L << 32, 0, Long.MIN_VALUE, 0);
            kept(x, 3, Long.MAX_VALUE, Long.MAX_VALUE, Long.MIN_VALUE + 1, Long.MIN_VALUE + 1, 1L << 32, 1L << 32);
            kept(x, 4, 0, 0, 1, 1, 2, 1, -1, 1, 256, 1, 1L << 32, 1, Long.MIN_VALUE, 1);
            x.row(5, 3, 1);
            due("the least long is put in", x.put(5, 0, Long.MIN_VALUE), 1);
            due("and is there", x.element(5, 0), Long.MIN_VALUE);
        });
    }

    /** By twos: what is put in, what is there then. */
    private static void kept(NineKeysRound x, int sort, long... twos) {
        x.row(0, sort, 3);
        for (int i = 0; i < twos.length; i += 2) {
            due("put", x.put(0, 1, twos[i]), 1);
            due("sort " + sort + " of " + twos[i], x.element(0, 1), twos[i + 1]);
            allDue("beside it", 0, x.element(0, 0), x.element(0, 2));
        }
    }

    private static void refusals() {
        edge("part 5", "-11 nothing is there where something is wanted", () -> {
            NineKeysRound x = three();
            fill(x, 1, 1);
            allDue("nothing", -11, x.round(5, 0), x.paper(5, 0), x.which(51), x.which(5), x.fit(5, -1), x.put(5, 0, 1), x.shift(5, 0, 0, 0, 0),
                x.shift(0, 0, 5, 0, 0), x.taken(5, 0));
            x.row(5, 0, 0);
            due("an empty row is something", x.round(5, 0), 0);
            x.keep(5, -1);
            due("nothing again", x.round(5, 0), -11);
        });
        edge("part 5", "-12 it is of another kind", () -> {
            NineKeysRound x = three();
            fill(x, 1, 1);
            x.keep(2, x.body(1));
            allDue("a KEY", -12, x.round(2, 0), x.paper(2, 0), x.which(21), x.which(2), x.fit(2, -1), x.put(2, 0, 1), x.shift(2, 0, 0, 0, 0),
                x.shift(0, 0, 2, 0, 0), x.posts(2, 0, 1));
            for (int sort = 1; sort < 5; sort++) {
                x.row(3, sort, 2);
                allDue("no bytes", -12, x.round(3, 0), x.posts(3, 0, 1), x.shift(0, 0, 3, 0, 1), x.taken(3, 0));
            }
            for (int sort = 0; sort < 5; sort++) {
                x.row(3, sort, 2);
                if (sort != 1) allDue("no shorts", -12, x.paper(3, 0), x.which(3), x.fit(3, -1));
            }
        });
        edge("part 5", "-13 a place that is not there", () -> {
            NineKeysRound x = new NineKeysRound();
            x.row(0, 2, 60);
            x.row(1, 2, 0);
            due("the first", x.put(0, 0, 1), 1);
            due("the last", x.put(0, 59, 1), 1);
            allDue("not there", -13, x.put(0, 60, 1), x.put(0, -1, 1), x.put(0, TOO_GREAT, 1), x.put(0, TOO_SMALL, 1), x.put(1, 0, 1),
                x.shift(0, 0, 1, 0, 1), x.shift(1, 0, 0, 0, 1), x.shift(0, 1, 0, 0, 60), x.shift(0, 0, 0, 1, 60), x.shift(0, 61, 0, 0, 0));
            due("all in their own places", x.shift(0, 0, 0, 0, 60), 60);
        });
        edge("part 5", "-14 a size below 0", () -> {
            NineKeysRound x = new NineKeysRound();
            allDue("below 0", -14, x.row(0, 0, -1), x.row(5, 4, TOO_SMALL));
            due("nothing is there", x.taken(0, 0), -11);
            due("0 is none", x.row(0, 0, 0), 1);
        });
        edge("part 5", "a ROUND on a SHELF: BAD, -11, -12 (no ROW of bytes)", () -> {
            NineKeysRound x = three();
            x.row(2, 1, 3);
            x.keep(3, x.body(0));
            roundRefusals(x, -1, BAD);
            roundRefusals(x, 6, BAD);
            roundRefusals(x, TOO_GREAT, BAD);
            roundRefusals(x, 1, -11);
            roundRefusals(x, 2, -12);
            roundRefusals(x, 3, -12);
        });
        edge("part 5", "(xy: 100 times Y, and X", () -> {
            NineKeysRound x = new NineKeysRound();
            due("Y alone", x.post(1500), 0);
            due("Y", x.of(0, 1), 15);
            due("X", x.of(0, 0), 0);
            due("X alone", x.post(15), 1);
            due("its X", x.of(1, 0), 15);
            due("its Y", x.of(1, 1), 0);
        });
    }

    private static void roundRefusals(NineKeysRound x, int shelf, int want) {
        allDue("shelf " + shelf, want, x.round(shelf, 0), x.first(shelf, 0), x.by(shelf, 0, 0), x.unseen(shelf, 0, 0, 0), x.lost(shelf, 0, 0, 0),
            x.lost(shelf, -1, 0, 0), x.red(shelf, 0), x.gap(shelf, 0), x.late(shelf), x.thief(shelf, 0, 0, 1), x.safe(shelf, 1),
            x.two(shelf, 0, 0), x.two(shelf, -1, 0), x.success(shelf, 0, 0, 1), x.bestMinute(shelf, 0, 1, 0), x.mix(shelf, 0, 1));
    }

    private static void postsFromRows() {
        edge("part 5", "it ends where the row is missing, ends (within a three, too), one is not so, or POSTS are FULL: those ahead came", () -> {
            NineKeysRound x = new NineKeysRound();
            due("missing", x.posts(0, 0, 9), 0);
            for (int n = 0; n < 9; n++) {
                NineKeysRound one = new NineKeysRound();
                one.row(0, 0, n);
                due("a row of " + n, one.posts(0, 0, 9), n / 3);
                due("came", one.count(0), n / 3);
            }
            int[][] notSo = {{-1, 0, 0}, {16, 0, 0}, {0, -1, 0}, {0, 16, 0}, {0, 0, -1}, {0, 0, 10}};
            for (int[] three : notSo) {
                NineKeysRound some = new NineKeysRound();
                fill(some, 0, 0, 15, 15, 9, three[0], three[1], three[2], 1, 1, 1);
                due("one is not so", some.posts(0, 0, 3), 1);
                due("that ahead came", some.of(0, 2), 9);
                due("it did not", some.count(0), 1);
                due("none ahead of it", some.posts(0, 3, 2), 0);
                due("the one behind it", some.posts(0, 6, 2), 1);
            }
            NineKeysRound full = yard(1, 2, 3, 4, 5, 6, 7);
            full.row(0, 0, 60);
            due("FULL behind two", full.posts(0, 0, 9), 2);
            due("FULL at once", full.posts(0, 0, 1), 0);
        });
    }

    private static void answers() {
        edge("part 5", "BAD (-1): no such number, or it is not as said; NOT (-2): as told; FULL (-3); STATE (-5): as told; -11 to -14.", () -> {
            due("BAD", NineKeysRound.BAD, -1);
            due("NOT", NineKeysRound.NOT, -2);
            due("FULL", NineKeysRound.FULL, -3);
            due("STATE", NineKeysRound.STATE, -5);
        });
        edge("part 5", "Answers, of several the one named first", () -> {
            NineKeysRound x = yard(1, 2, 3, 4, 5, 6, 7, 8, 9);
            for (int i = 0; i < 50; i++) x.body(0);
            for (int i = 0; i < 120; i++) x.feed('1');
            waitTill(x, 9999);
            x.keep(2, 0);
            x.row(3, 1, 3);
            allBad("BAD ahead of FULL", x.post(16), x.feed(256), x.body(8));
            allBad("BAD ahead of STATE", x.walk(9), x.waits(0), x.shortest(511, -2), x.leftOut(511, 2), x.fit(3, -2));
            allBad("BAD ahead of -11", x.round(0, 2), x.paper(0, 4), x.fit(0, -2), x.shift(0, 0, 6, 0, 0), x.taken(0, 8), x.which(6));
            allBad("BAD ahead of -12", x.round(2, 2), x.paper(2, 4), x.fit(2, -2), x.shift(2, 0, 6, 0, 0), x.taken(2, 8), x.posts(2, 0, 0), x.which(62));
            allBad("BAD ahead of -14", x.row(0, 5, -1), x.row(6, 0, -1));
            allDue("-11 ahead of -12", -11, x.which(2), x.which(20), x.shift(0, 0, 2, 0, 0), x.shift(2, 0, 0, 0, 0));
            allDue("-11 ahead of -13", -11, x.put(0, -1, 0), x.shift(0, -1, 3, 0, 0));
            allDue("-12 ahead of -13", -12, x.put(2, -1, 0), x.shift(2, -1, 3, 0, 0));
            allDue("in fit()'s own order", -11, x.fit(0, -1));
            allDue("in fit()'s own order", -12, x.fit(2, -1));
        });
        edge("part 5", "VOID is -2000000000", () -> due("VOID", NineKeysRound.VOID, -2000000000));
    }

    /** A yard with something of everything, to be looked at before and behind refused calls. */
    private static NineKeysRound rich() {
        NineKeysRound x = yard(203, 508, 12, 1004);
        x.mend(1, 2, 5);
        x.mend(0, 6, 2);
        x.mend(2, 3, 30);
        x.undo();
        fill(x, 0, 0, 0, 1, 3, 2);
        fill(x, 1, 1, 0, 10, 1, 27, 3, 46, 2, 88, 0);
        fill(x, 2, 2, 7, 8, 9);
        x.keep(3, x.body(7));
        x.act(0, 3, 1);
        x.walk(1);
        x.image();
        x.walk(2);
        law(x, "u+p");
        for (int i = 0; i < 3; i++) x.feed("v+1".charAt(i));
        return x;
    }

    private static List<Long> look(NineKeysRound x) {
        List<Long> all = new ArrayList<>();
        for (int what = 0; what < 5; what++) all.add((long) x.count(what));
        for (int what = 0; what < 5; what++) all.add((long) x.led(what));
        for (int p = 0; p < 10; p++) for (int what = 0; what < 9; what++) all.add((long) x.of(p, what));
        for (int i = 0; i < 24; i++) all.add((long) x.trace(i));
        for (int shelf = 0; shelf < 6; shelf++) {
            all.add((long) x.taken(shelf, 0));
            for (int i = 0; i < 10; i++) all.add(x.element(shelf, i));
        }
        all.add((long) x.lost(0, -1, 0, 99));
        all.add((long) x.law());
        all.add((long) x.lost(0, -1, 0, 99));
        all.add((long) x.home());
        all.add((long) x.back());
        all.add((long) x.led(1));
        all.add((long) x.redo());
        all.add((long) x.undo());
        return all;
    }

    private static void refusedCallsChangeNothing() {
        NineKeysRound x = rich();
        int[] answers = {
            x.post(16), x.post(-1), x.posts(6, 0, 1), x.posts(0, 0, 0), x.posts(1, 0, 1), x.posts(3, 0, 1), x.mend(4, 0, 1), x.mend(0, 0, 16),
            x.mend(1, 6, 3), x.mend(0, 3, 0), x.of(0, 9), x.feed(256), x.feed(-1), x.round(0, 2), x.round(5, 0), x.first(1, 0), x.by(0, 0, 0),
            x.unseen(0, 0, 1000, 0), x.lost(0, 0, 5, 4), x.red(0, 16), x.gap(0, 9), x.late(5), x.shortest(16, 0), x.shortest(15, 4), x.leftOut(0, 0),
            x.thief(0, 0, 0, 100), x.safe(0, 0), x.two(0, 0, 100), x.success(0, 0, 600, 1), x.bestMinute(0, 0, 0, 0), x.mix(0, 0, 0), x.paper(0, 0),
            x.which(10), x.fit(2, 0), x.hang(31, 0), x.drawn(0, 10, 0), x.walk(4), x.waits(0), x.waits(1000), x.led(5), x.body(8), x.trace(99),
            x.keep(0, 1), x.keep(6, 0), x.keep(0, -2), x.row(0, 5, 1), x.row(0, 0, 61), x.row(0, 0, -1), x.put(0, 4, 1), x.put(3, 0, 1), x.put(5, 0, 1),
            x.shift(0, 0, 1, 0, 1), x.shift(2, 0, 2, 1, 3), x.shift(2, 1, 2, 0, 3), x.shift(2, 0, 2, 1, -1), x.shift(2, 0, 5, 0, 1), x.taken(3, 2),
            x.taken(5, 0), x.count(5),
        };
        for (int i = 0; i < answers.length; i++) due("call " + i + " is refused", answers[i] < 0 ? 1 : 0, 1);
        List<Long> want = look(rich()), got = look(x);
        for (int i = 0; i < want.size(); i++) due("look " + i, got.get(i), want.get(i));
        refusedForStateChangeNothing();
    }

    /** Where all is full, and time is over. */
    private static void refusedForStateChangeNothing() {
        List<Long> want = look(filled()), got;
        NineKeysRound x = filled();
        int[] full = {x.post(0), x.feed('1'), x.body(0)};
        int[] state = {x.walk(0), x.waits(1), x.home(), x.shortest(511, -1), x.leftOut(511, 0), x.fit(1, -1)};
        for (int answer : full) due("full", answer, FULL);
        for (int answer : state) due("state", answer, STATE);
        got = look(x);
        for (int i = 0; i < want.size(); i++) due("look at the full one " + i, got.get(i), want.get(i));
        NineKeysRound fresh = new NineKeysRound();
        allDue("none", STATE, fresh.undo(), fresh.redo(), fresh.back());
        due("nothing came of it", fresh.count(2), 0);
    }

    private static NineKeysRound filled() {
        NineKeysRound x = yard(1515, 2, 3, 4, 5, 6, 7, 8, 9);
        for (int i = 0; i < 50; i++) x.body(i % 8);
        for (int i = 0; i < 120; i++) x.feed(i % 2 == 0 ? 'v' : '+');
        fill(x, 0, 0, 0, 1, 2);
        x.row(1, 1, 2);
        x.image();
        x.walk(0);
        waitTill(x, 9999);
        x.mend(0, 2, 3);
        return x;
    }
}
