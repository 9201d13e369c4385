/** Edges of part 2 of the terms: rounds in thought. */
final class EdgesOfRounds extends Edges {
    private EdgesOfRounds() {
    }

    static void run() {
        minutes();
        red();
        gaps();
        sets();
        thieves();
        two();
    }

    private static void minutes() {
        edge("part 2", "minutes 0 .. 999", () -> {
            NineKeysRound x = three();
            allBad("below 0", x.by(0, -1, 1), x.unseen(0, 0, -1, 0), x.lost(0, 0, -1, 5), x.lost(0, 0, -2, -1), x.thief(0, 0, -1, 1));
            allBad("above 999", x.by(0, 1000, 1), x.unseen(0, 0, 1000, 0), x.lost(0, 0, 5, 1000), x.lost(0, 0, 1000, 1000), x.thief(0, 0, 1000, 1));
            due("by 0", x.by(0, 0, 1), 0);
            due("by 999", x.by(0, 999, 1), 177);
            due("unseen in 0", x.unseen(0, 2, 0, 0), 1);
            due("unseen in 999", x.unseen(0, 2, 999, 0), 2);
            law(x, "1");
            due("lost in 0", x.lost(0, 0, 0, 0), 1);
            due("lost in 999", x.lost(0, 0, 999, 999), 1);
            due("lost in all", x.lost(0, 0, 0, 999), 1000 - 59);
            due("thief in 0", x.thief(0, 0, 0, 1), 0);
            due("thief in 999", x.thief(0, 0, 999, 1), 999);
        });
        edge("part 2", "minutes of one round (from its first POST to it again, STANDING counted)", () -> {
            NineKeysRound x = paced(9, 9, 1515, 0);
            fill(x, 0, 0, 0, 1);
            due("the longest way", x.round(0, 1), 558);
            fill(x, 0, 0, 0);
            due("one POST: STANDING alone", x.round(0, 1), 9);
            x.mend(0, 7, 0);
            due("one POST without STANDING", x.round(0, 1), 0);
            fill(x, 0, 0);
            x.mend(0, 7, 9);
            due("no POST", x.round(0, 1), 0);
        });
        edge("part 2", "when he DENTS at a POST first (NOT)", () -> {
            NineKeysRound x = three();
            x.post(0);
            due("there", x.first(0, 2), 11);
            due("not there", x.first(0, 3), NOT);
            fill(x, 0, 0);
            due("nobody is there", x.first(0, 2), NOT);
        });
        edge("part 2", "where he DENTS last by a minute (NOT)", () -> {
            NineKeysRound x = three();
            due("none yet", x.by(0, 1, 0), NOT);
            due("in its minute", x.by(0, 2, 0), 0);
            due("till the next", x.by(0, 5, 0), 0);
            due("the next", x.by(0, 6, 0), 1);
            fill(x, 0, 0);
            due("never", x.by(0, 999, 0), NOT);
        });
        edge("part 2", "what may be LOST at a POST in the minutes from a to b", () -> {
            NineKeysRound x = three();
            law(x, "1");
            // Post 1 is seen in minute 6.
            due("one minute", x.lost(0, 1, 5, 5), 1);
            due("that one is SEEN", x.lost(0, 1, 6, 6), 0);
            due("the first and the last count", x.lost(0, 1, 5, 7), 2);
            due("the first alone is SEEN", x.lost(0, 1, 6, 7), 1);
            due("the last alone is SEEN", x.lost(0, 1, 5, 6), 1);
        });
        edge("part 2", "at all POSTS", () -> {
            NineKeysRound x = three();
            law(x, "1");
            due("but the one that is SEEN", x.lost(0, -1, 2, 2), 2);
            NineKeysRound none = new NineKeysRound();
            fill(none, 0, 0);
            due("of none", none.lost(0, -1, 0, 999), 0);
        });
    }

    /** Post 2 is dented once: PACE 8, past both corners and back, then the cells told from the far corner. */
    private static NineKeysRound onceDented(int stand, int xy) {
        NineKeysRound x = paced(8, stand, 1515, 0, xy);
        fill(x, 0, 0, 0, 1, 0, 2);
        return x;
    }

    private static void red() {
        edge("part 2", "no DENT in the 60 minutes of an hour h (0 .. 15)", () -> {
            NineKeysRound x = three();
            allBad("hours", x.red(0, -1), x.red(0, 16), x.red(0, TOO_GREAT), x.red(0, TOO_SMALL));
            due("hour 0", x.red(0, 0), 0);
            due("hour 15", x.red(0, 15), 0);
            NineKeysRound edge = onceDented(1, 701);
            due("in minute 899", edge.first(0, 2), 899);
            due("it is in hour 14", edge.red(0, 14) & 4, 0);
            due("not in hour 15", edge.red(0, 15), 7);
            edge = onceDented(4, 801);
            due("in minute 900", edge.first(0, 2), 900);
            due("it is not in hour 14", edge.red(0, 14), 7);
            due("but in hour 15", edge.red(0, 15), 3);
            edge = onceDented(5, 101);
            due("in minute 959", edge.first(0, 2), 959);
            due("it is in hour 15", edge.red(0, 15), 3);
            edge = onceDented(0, 0);
            due("in minute 960", edge.first(0, 2), 960);
            due("it is not in hour 15", edge.red(0, 15), 7);
            NineKeysRound first = yard(0);
            first.mend(0, 7, 0);
            fill(first, 0, 0, 0);
            due("in minute 0", first.red(0, 0), 0);
            fill(first, 0, 0);
            due("nobody comes", first.red(0, 0), 1);
            NineKeysRound none = new NineKeysRound();
            none.row(0, 0, 1);
            due("no POSTS", none.red(0, 0), 0);
        });
    }

    private static void gaps() {
        edge("part 2", "the greatest number of minutes from one DENT of a POST to its next one, for ever", () -> {
            NineKeysRound x = paced(9, 9, 1515, 0, 0);
            fill(x, 0, 0, 0, 1, 0, 1, 0, 1, 0, 1, 2);
            due("within a turn", x.gap(0, 0), 567);
            due("from a turn to the next, beyond minute 1999", x.gap(0, 2), 2 * 9 + 7 * 279 + 270);
            NineKeysRound bunch = paced(8, 2, 0, 1515);
            bunch.row(0, 0, 18);
            bunch.put(0, 17, 1);
            due("of many short ones and a long one", bunch.gap(0, 0), 2 + 240 + 2 + 240);
        });
        edge("part 2", "and from minute 0 to its first one", () -> {
            NineKeysRound x = paced(1, 1, 1515);
            fill(x, 0, 0, 0);
            due("the way there", x.gap(0, 0), 30);
            gate(x, 15, 15);
            due("no way", x.gap(0, 0), 1);
        });
        edge("part 2", "a ROUND whose one round takes 0 minutes: that alone", () -> {
            NineKeysRound x = paced(9, 0, 1515, 1515);
            fill(x, 0, 0, 0, 1, 0);
            due("no minutes", x.round(0, 1), 0);
            due("the way there", x.gap(0, 0), 270);
            gate(x, 15, 15);
            due("not even that", x.gap(0, 1), 0);
        });
        edge("part 2", "NOT: it is not in the ROUND", () -> {
            NineKeysRound x = three();
            x.post(0);
            due("not in it", x.gap(0, 3), NOT);
            fill(x, 0, 0, 0, 9, 3);
            due("behind its end", x.gap(0, 3), NOT);
            fill(x, 0, 0);
            due("none is in it", x.gap(0, 0), NOT);
        });
        edge("part 2", "which POSTS (bits) have a GAP above DUE, or none", () -> {
            NineKeysRound x = three();
            x.mend(0, 3, 17);
            x.mend(1, 3, 16);
            x.mend(2, 3, 18);
            due("a GAP as DUE is none above it", x.late(0), 2);
            x.post(0);
            due("not in the ROUND", x.late(0), 10);
            fill(x, 0, 0);
            due("none is in it", x.late(0), 15);
            NineKeysRound none = new NineKeysRound();
            none.row(0, 0, 3);
            due("no POSTS", none.late(0), 0);
        });
    }

    private static void sets() {
        edge("part 2", "through all POSTS of a set (7 at most, else STATE)", () -> {
            NineKeysRound nine = yard(1, 2, 3, 4, 5, 6, 7, 8, 9);
            due("seven", nine.shortest(127, -1), 21);
            due("the last seven", nine.shortest(508, -1), 25);
            due("seven with both ends", nine.shortest(0b101111101, -1), 25);
            allDue("eight or nine", STATE, nine.shortest(255, -1), nine.shortest(510, 0), nine.shortest(511, -1), nine.shortest(511, 8));
        });
        edge("part 2", "STANDING at each, and back to THE GATE: minutes", () -> {
            NineKeysRound x = paced(9, 9, 1515, 0);
            due("of none", x.shortest(0, -1), 0);
            due("the farthest", x.shortest(1, -1), 549);
            due("no way", x.shortest(2, -1), 9);
            x.mend(0, 7, 0);
            due("without STANDING", x.shortest(3, -1), 540);
        });
        edge("part 2", "the k-th POST (of like ones the first by numbers)", () -> {
            NineKeysRound same = yard(3, 3, 3);
            for (int k = 0; k < 3; k++) due("in one cell", same.shortest(7, k), k);
            due("of two of them", same.shortest(6, 0), 1);
            same.mend(0, 7, 0);
            for (int k = 0; k < 3; k++) due("in one cell without STANDING", same.shortest(7, k), k);
            // Round a square either way: the way that begins with the lesser number.
            NineKeysRound square = yard(400, 404, 4);
            for (int k = 0; k < 3; k++) due("either way round", square.shortest(7, k), k);
            NineKeysRound other = yard(4, 400, 404);
            int[] order = {0, 2, 1};
            for (int k = 0; k < 3; k++) due("numbers otherwise", other.shortest(7, k), order[k]);
        });
        edge("part 2", "left out, makes that least (of like ones the least)", () -> {
            NineKeysRound same = yard(3, 3, 3);
            due("in one cell", same.leftOut(7, 0), 0);
            due("of two of them", same.leftOut(6, 0), 1);
            NineKeysRound far = yard(0, 1500, 15);
            due("of two as far", far.leftOut(7, 0), 1);
        });
        edge("part 2", "minutes then; NOT: none is in it", () -> {
            NineKeysRound x = yard(3);
            due("the only one", x.leftOut(1, 0), 0);
            due("nothing is left", x.leftOut(1, 1), 0);
            due("none", x.leftOut(0, 0), NOT);
            due("no minutes", x.leftOut(0, 1), NOT);
        });
    }

    /** Posts 0 and 1 by turns each minute, 16 dents in four minutes: the 4000th is in minute 999, one later by each cell told. */
    private static NineKeysRound byTurns(int cells) {
        NineKeysRound x = paced(1, 0, cells, cells + 1);
        fill(x, 0, 0, 0, 0, 0, 0, 1, 1, 1, 1, 0, 0, 0, 0, 1, 1, 1, 1);
        return x;
    }

    private static void thieves() {
        edge("part 2", "THIEF: the first minute from a minute a on (to 999)", () -> {
            NineKeysRound x = byTurns(0);
            due("the first at all is 999", x.thief(0, 0, 0, 2), 999);
            due("from it on", x.thief(0, 0, 999, 99), 999);
            due("SEEN in 999", x.thief(0, 1, 999, 1), NOT);
            due("free in 998 alone", x.thief(0, 1, 998, 1), 998);
            due("the first at all would be 1000", x.thief(0, 1, 0, 2), NOT);
            NineKeysRound later = byTurns(1);
            due("the other one's would be 1000", later.thief(0, 0, 0, 2), NOT);
        });
        edge("part 2", "not SEEN for n (1 .. 99) minutes on end; NOT", () -> {
            NineKeysRound x = three();
            allBad("n", x.thief(0, 0, 0, 0), x.thief(0, 0, 0, 100), x.thief(0, 0, 0, -1), x.thief(0, 0, 0, TOO_GREAT));
            allBad("n of safe()", x.safe(0, 0), x.safe(0, 100));
            due("one minute", x.thief(0, 0, 2, 1), 3);
            due("as long as there is", x.thief(0, 0, 0, 16), 3);
            due("one more", x.thief(0, 0, 0, 17), NOT);
            due("99 never", x.thief(0, 0, 0, 99), NOT);
            fill(x, 0, 0);
            due("99 at once", x.thief(0, 0, 0, 99), 0);
            fill(x, 0, 0, 0);
            due("always there", x.thief(0, 0, 2, 1), NOT);
        });
        edge("part 2", "have no such minutes from 0 to 999 (the n minutes may end beyond)", () -> {
            due("those of 0 begin in 999, of 1 in 1000", byTurns(0).safe(0, 2), 2);
            due("those of 0 begin in 1000", byTurns(1).safe(0, 2) & 1, 1);
            due("one minute alone is always found", byTurns(0).safe(0, 1), 0);
            NineKeysRound none = new NineKeysRound();
            none.row(0, 0, 1);
            due("no POSTS", none.safe(0, 1), 0);
        });
    }

    private static void two() {
        edge("part 2", "o minutes later (0 .. 99)", () -> {
            NineKeysRound x = three();
            allBad("o", x.two(0, 0, -1), x.two(0, 0, 100), x.two(0, 0, TOO_SMALL));
            due("o 0", x.two(0, 0, 0), 17);
            // 99 is five turns and 14 minutes.
            due("o 99", x.two(0, 0, 99), 14);
        });
        edge("part 2", "of all its DENTS from minute o on to minute 999 (fewer than two: NOT)", () -> {
            NineKeysRound x = paced(9, 9, 1515, 0, 1500);
            fill(x, 0, 0, 0, 1, 0, 2);
            // Post 2 is dented in minute 972, and not again till 999.
            due("the second one in 999", x.two(0, 2, 27), 27);
            due("the second one in 1000", x.two(0, 2, 28), NOT);
            due("both at once", x.two(0, 2, 0), 0);
            NineKeysRound soon = paced(7, 9, 1515, 0, 707);
            fill(soon, 0, 0, 2, 0, 1, 0, 1, 0);
            // Post 2 is dented in minute 98, and not again till 999.
            due("the first in minute o", soon.two(0, 2, 98), 98);
            due("of another one, in 219 and 657", soon.two(0, 0, 0), 438);
            due("the first ahead of it", soon.two(0, 2, 99), NOT);
            soon.post(0);
            due("not in the ROUND", soon.two(0, 3, 0), NOT);
            NineKeysRound still = paced(1, 0, 3);
            fill(still, 0, 0, 0);
            // All dents of the first in minute 3, all of the second o later.
            due("those of both", still.two(0, 0, 3), 3);
            due("those of the second alone", still.two(0, 0, 4), 0);
        });
        edge("part 2", "(those NOT do not count) is least (of like ones the least; 0, if none counts)", () -> {
            NineKeysRound x = paced(9, 9, 1515, 0, 1500);
            fill(x, 0, 0, 0, 1, 0, 2);
            due("that of 2, which is NOT from 28 on, does not count", x.two(0, -1, 0), 99);
            NineKeysRound even = three();
            // A turn is 17 minutes: 8 and 9 give a GAP of 9, and so do 25, 26, ..
            due("of like ones", even.two(0, -1, 0), 8);
            fill(even, 0, 0, 0);
            due("all are like", even.two(0, -1, 99), 0);
            NineKeysRound near = paced(1, 0, 0, 1);
            fill(near, 0, 0, 0, 1);
            due("1 is best where a turn is 2", near.two(0, -1, 0), 1);
            fill(even, 0, 0);
            due("none counts", even.two(0, -1, 50), 0);
            due("no POSTS", noPostsTwo(), 0);
        });
    }

    private static int noPostsTwo() {
        NineKeysRound none = new NineKeysRound();
        none.row(0, 0, 1);
        return none.two(0, -1, 0);
    }
}
