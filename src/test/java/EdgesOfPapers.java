import java.util.Arrays;

/** Edges of part 3 of the terms: forth or back, papers, one post more. */
final class EdgesOfPapers extends Edges {
    private EdgesOfPapers() {
    }

    static void run() {
        odds();
        bestMinutes();
        mixes();
        possible();
        slept();
        forged();
        which();
        fit();
        hang();
    }

    private static void odds() {
        edge("part 3", "with p of twelve (0 .. 12), else BACK", () -> {
            NineKeysRound x = three();
            // In minute 18 post 0 is SEEN by BACK alone, in 19 by forth alone.
            due("never forth, BACK sees", x.success(0, 0, 18, 1), 0);
            due("never forth, BACK does not", x.success(0, 0, 19, 1), 12);
            due("never BACK, forth does not", x.success(0, 0, 18, 1201), 12);
            due("never BACK, forth sees", x.success(0, 0, 19, 1201), 0);
            due("one of twelve", x.success(0, 0, 18, 101), 1);
            allBad("p", x.success(0, 0, 18, 1301), x.success(0, 0, 18, -1), x.success(0, 0, 18, -99), x.success(0, 0, 18, TOO_GREAT));
            allBad("p of bestMinute()", x.bestMinute(0, 0, 1301, 0), x.bestMinute(0, 0, -1, 0), x.bestMinute(0, 0, TOO_SMALL, 0));
        });
        edge("part 3", "SUCCESS of a thief who needs n minutes at a POST from minute m on: how likely it is not SEEN in them", () -> {
            NineKeysRound x = three();
            // Forth post 0 is SEEN in 2, 19, 36, BACK in 18, 35.
            due("ahead of both", x.success(0, 0, 0, 602), 12);
            due("the last minute is SEEN", x.success(0, 0, 0, 603), 6);
            due("the first minute is SEEN", x.success(0, 0, 2, 601), 6);
            due("between both", x.success(0, 0, 20, 615), 12);
            due("a minute more", x.success(0, 0, 20, 616), 6);
            due("two more", x.success(0, 0, 20, 617), 0);
            fill(x, 0, 0);
            due("99 where nobody comes", x.success(0, 0, 599, 699), 12);
            NineKeysRound wide = freeFor99();
            due("99 forth alone", wide.success(0, 0, 63, 599), 5);
            due("99 BACK alone", wide.success(0, 0, 54, 599), 7);
            due("99 forth alone, likelier", wide.success(0, 0, 63, 799), 7);
            due("a minute later", wide.success(0, 0, 64, 599), 0);
        });
    }

    /** Post 0 is unseen for 99 minutes at most: forth from 63, 171, .. on, BACK from 54, 162, .. on. */
    private static NineKeysRound freeFor99() {
        NineKeysRound x = paced(3, 9, 15, 0);
        fill(x, 0, 0, 1, 0);
        return x;
    }

    /**
     * Post 0 is dented each second minute, forth and BACK, till its 4000 dents are over: the last time in minute 570
     * and as many more as it is cells from the gate; post 1 is one cell farther.
     */
    private static NineKeysRound tillLate(int near, int far) {
        NineKeysRound x = paced(1, 0, near, far);
        fill(x, 0, 0, 0, 0, 0, 0, 1, 1, 1, 1, 1, 1, 1, 1, 1, 1);
        return x;
    }

    private static void bestMinutes() {
        edge("part 3", "from 0 to 599 the one by which it is likeliest (of like ones the first)", () -> {
            NineKeysRound late = tillLate(1414, 1415);
            due("it is 599", late.bestMinute(0, 0, 631, 0), 599);
            due("surely", late.bestMinute(0, 0, 631, 1), 12);
            NineKeysRound later = tillLate(1415, 1515);
            due("it would be 600", later.bestMinute(0, 0, 632, 0), 0);
            due("never", later.bestMinute(0, 0, 632, 1), 0);
            NineKeysRound x = three();
            due("all are like", bestWhereNobodyComes(), 0);
            NineKeysRound wide = freeFor99();
            due("BACK alone", wide.bestMinute(0, 0, 599, 0), 54);
            due("likelier than forth", wide.bestMinute(0, 0, 599, 1), 7);
            due("forth alone", wide.bestMinute(0, 0, 799, 0), 63);
            due("likelier than BACK", wide.bestMinute(0, 0, 799, 1), 7);
            // Each way he is at post 0 in 26, 78, .., 598, 650: a minute more than he is away, from 599 on, too.
            NineKeysRound tight = paced(1, 0, 1115, 0);
            fill(tight, 0, 0, 1, 0);
            allDue("the last minute of 52 is SEEN", 0, tight.bestMinute(0, 0, 52, 1), tight.bestMinute(0, 0, 1252, 1), tight.bestMinute(0, 0, 52, 0));
            allDue("51 are free", 27, tight.bestMinute(0, 0, 51, 0), tight.bestMinute(0, 0, 1251, 0));
            due("of like ones", x.bestMinute(0, 0, 615, 0), 3);
            due("as likely", x.bestMinute(0, 0, 615, 1), 12);
        });
    }

    private static int bestWhereNobodyComes() {
        NineKeysRound x = yard(0);
        fill(x, 0, 0);
        return x.bestMinute(0, 0, 699, 0);
    }

    private static void mixes() {
        edge("part 3", "the p by which that greatest one is least (of like ones the least)", () -> {
            NineKeysRound x = three();
            due("12 by every p", x.mix(0, 0, 15), 0);
            due("6 by even odds", x.mix(0, 0, 16), 6);
            due("free BACK alone", x.mix(0, 0, 17), 12);
            due("free forth alone", x.mix(0, 2, 17), 0);
            due("0 by every p", x.mix(0, 0, 99), 0);
            // At first it is free BACK alone, from 599 or 600 on both ways.
            due("minute 599 counts", tillLate(1414, 1415).mix(0, 0, 29), 0);
            due("minute 600 does not", tillLate(1415, 1515).mix(0, 0, 30), 12);
        });
    }

    private static void possible() {
        edge("part 3", "the first two that cannot be, as he would have had to come there sooner than by PACE, STAND from the one ahead", () -> {
            NineKeysRound x = three();
            paperDue(x, NOT, 0, NOT, 0, 0, 2, 1, 6);
            paperDue(x, 1, 0, NOT, 1, 0, 2, 1, 5);
            paperDue(x, NOT, 0, NOT, 0, 0, 2, 0, 3);
            paperDue(x, 1, 0, NOT, 1, 0, 2, 0, 2);
            x.mend(0, 6, 9);
            x.mend(0, 7, 9);
            paperDue(x, NOT, 0, NOT, 0, 0, 18, 1, 54);
            paperDue(x, 1, 0, NOT, 1, 0, 18, 1, 53);
            x.mend(0, 7, 0);
            paperDue(x, NOT, 0, NOT, 0, 0, 18, 0, 18);
        });
        edge("part 3", "(the first one: from THE GATE)", () -> {
            NineKeysRound x = three();
            paperDue(x, NOT, 0, NOT, 0, 2, 9);
            paperDue(x, 0, 0, NOT, 1, 2, 8);
            gate(x, 5, 4);
            paperDue(x, NOT, 0, NOT, 0, 2, 0);
            paperDue(x, 0, 0, NOT, 1, 2, -1);
        });
        edge("part 3", "or is none, or lacks; NOT", () -> {
            NineKeysRound x = three();
            paperDue(x, NOT, 0, NOT, 0);
            paperDue(x, 0, 0, NOT, 1, 3, 50);
            paperDue(x, 0, 0, NOT, 1, -1, 50);
            paperDue(x, 0, 0, NOT, 1, 256, 50);
            paperDue(x, 0, 0, NOT, 1, 0);
            paperDue(x, 1, 0, NOT, 1, 0, 2, 0);
            paperDue(x, 1, 0, NOT, 1, 0, 2, 3);
            fullPapers(x);
        });
    }

    /** The longest paper, all of it in order; then with its last two lacking. */
    private static void fullPapers(NineKeysRound x) {
        int[] elements = new int[60];
        for (int k = 0; k < 30; k++) elements[2 * k + 1] = 2 + k;
        paperDue(x, NOT, 0, NOT, 0, elements);
        paperDue(x, 29, 0, NOT, 1, Arrays.copyOf(elements, 59));
        elements[59] = 30;
        paperDue(x, 29, 0, NOT, 1, elements);
    }

    private static void slept() {
        edge("part 3", "SLEPT: minutes that there were more than that, all together (till the first that cannot be)", () -> {
            NineKeysRound x = three();
            paperDue(x, NOT, 0, NOT, 0, 0, 2, 1, 6, 2, 11);
            paperDue(x, NOT, 1, 0, 0, 0, 3, 1, 7, 2, 12);
            paperDue(x, NOT, 3, 2, 0, 0, 2, 1, 7, 2, 14);
            paperDue(x, 1, 5, 0, 1, 0, 7, 1, 10, 2, 90);
            paperDue(x, 0, 0, NOT, 1, 0, 1, 1, 90);
            paperDue(x, NOT, 32765, 0, 0, 0, 32767);
            paperDue(x, 1, 32765, 0, 1, 0, 32767, 1, -32768);
            paperDue(x, 0, 0, NOT, 1, 0, 32768);
        });
        edge("part 3", "where the most of it was (the number of the two; of like ones the first; NOT)", () -> {
            NineKeysRound x = three();
            paperDue(x, NOT, 4, 0, 0, 0, 4, 1, 10);
            paperDue(x, NOT, 5, 1, 0, 0, 4, 1, 11);
            paperDue(x, NOT, 6, 1, 0, 0, 2, 1, 9, 2, 17);
            paperDue(x, NOT, 0, NOT, 0, 0, 2, 1, 6);
            paperDue(x, 0, 0, NOT, 2, -1, 90, 1, 99);
        });
    }

    private static void forged() {
        edge("part 3", "FORGED: how many twos cannot be, each by the one ahead of it as it stands", () -> {
            NineKeysRound x = three();
            // Post 1 is too soon by post 0's dent; post 2 and 0 go by what stands ahead.
            paperDue(x, 1, 0, NOT, 1, 0, 2, 1, 5, 2, 10, 0, 18);
            paperDue(x, 1, 0, NOT, 2, 0, 2, 1, 5, 2, 9, 0, 17);
            paperDue(x, 0, 0, NOT, 1, 0, 0, 1, 4);
            paperDue(x, 0, 0, NOT, 3, 0, 1, 1, 4, 2);
        });
        edge("part 3", "(behind one that is none: it cannot be, too)", () -> {
            NineKeysRound x = three();
            paperDue(x, 0, 0, NOT, 2, 3, 2, 1, 900);
            paperDue(x, 0, 0, NOT, 2, 3, 2, 1, 900, 2, 905);
            paperDue(x, 0, 0, NOT, 3, -1, 2, 9, 900, 2, 905);
        });
    }

    private static void which() {
        edge("part 3", "make just its DENTS (as far as it goes)", () -> {
            NineKeysRound x = three();
            fill(x, 1, 1);
            due("it goes nowhere", x.which(1), 3);
            fill(x, 1, 1, 0, 2);
            due("one", x.which(1), 1);
            fill(x, 1, 1, 0, 2, 1, 6, 2, 11, 0, 19);
            due("round to the first again", x.which(1), 1);
            fill(x, 1, 1, 0, 2, 1, 6, 2, 11, 0, 20);
            due("the last is later", x.which(1), 0);
            fill(x, 1, 1, 0, 2, 1, 6, 2, 11, 1, 19);
            due("the last is another", x.which(1), 0);
            fill(x, 1, 1, 1, 6);
            due("the first is left out", x.which(1), 0);
            fill(x, 1, 1, 0, 2, 1);
            due("one lacks", x.which(1), 0);
            due("one lacks, by an order", x.fit(1, -1), 0);
            NineKeysRound still = paced(1, 0, 0);
            fill(still, 0, 0, 0);
            fill(still, 1, 1, 0, 0, 0, 0, 0);
            due("one lacks where no minute goes by", still.which(1), 0);
            due("nor by an order", still.fit(1, -1), 0);
            still.row(1, 1, 60);
            due("thirty in one minute", still.which(1), 3);
            due("thirty by an order", still.fit(1, -1), 1);
            fill(x, 2, 0);
            fill(x, 1, 1, 0, 2);
            due("nobody goes", x.which(21), 0);
            fill(x, 1, 1, NOT, NOT);
            due("nobody goes, and no answer is a POST", x.which(21), 0);
            fill(x, 1, 1);
            due("nobody goes, nothing is on it", x.which(21), 3);
        });
    }

    private static void fit() {
        edge("part 3", "how many orders of all POSTS (6 at most, else STATE) as a ROUND make just the DENTS of a PAPER", () -> {
            NineKeysRound x = new NineKeysRound();
            int[] orders = {1, 1, 2, 6, 24, 120, 720};
            fill(x, 0, 1);
            for (int n = 0; n <= 6; n++) {
                due("orders of " + n, x.fit(0, -1), orders[n]);
                x.post(n);
            }
            allDue("seven", STATE, x.fit(0, -1), x.fit(0, 0), x.fit(0, TOO_GREAT));
            x.post(7);
            x.post(8);
            due("nine", x.fit(0, -1), STATE);
            NineKeysRound same = yard(0, 0, 0);
            fill(same, 0, 1, 1, 0);
            due("in one cell", same.fit(0, -1), 2);
            fill(same, 0, 1, 1, 0, 1, 1);
            due("a POST twice", same.fit(0, -1), 0);
            int[] none = {3, 9, -1, 256};
            for (int p : none) {
                fill(same, 0, 1, p, 0);
                due("no POST " + p, same.fit(0, -1), 0);
            }
            fill(same, 0, 1, 2, 0, 0, 1, 1, 2, 2, 3);
            due("round to the first again", same.fit(0, -1), 1);
        });
        edge("part 3", "the first by numbers: its k-th POST; NOT", () -> {
            NineKeysRound x = three();
            fill(x, 3, 1, 1, 5);
            int[] order = {1, 0, 2};
            for (int k = 0; k < 3; k++) due("of two orders", x.fit(3, k), order[k]);
            due("no fourth", x.fit(3, 3), NOT);
            due("far beyond", x.fit(3, TOO_GREAT), NOT);
            fill(x, 3, 1, 1, 4);
            due("no order", x.fit(3, 0), NOT);
            NineKeysRound none = new NineKeysRound();
            fill(none, 0, 1);
            due("no POSTS", none.fit(0, 0), NOT);
        });
    }

    private static void hang() {
        edge("part 3", "in which cell (16 Y and X; of like ones the least) a POST more would be farthest from its nearest POST", () -> {
            NineKeysRound x = yard(0);
            due("the farthest corner", x.hang(30, 0), 255);
            due("how far", x.hang(30, 1), 30);
            x.post(1515);
            // 15 from both: the other two corners and all cells between.
            due("of like ones", x.hang(30, 0), 15);
            due("as far", x.hang(30, 1), 15);
            NineKeysRound middle = yard(808);
            due("of four corners", middle.hang(30, 0), 0);
            due("16 away", middle.hang(30, 1), 16);
        });
        edge("part 3", "of those no farther than d (0 .. 30) from THE GATE", () -> {
            NineKeysRound x = paced(9, 1, 0);
            allBad("d", x.hang(-1, 0), x.hang(31, 0), x.hang(TOO_SMALL, 1), x.hang(TOO_GREAT, 1));
            due("d 0", x.hang(0, 0), 0);
            due("d 0, how far", x.hang(0, 1), 0);
            due("d 1", x.hang(1, 0), 1);
            due("d 1 in cells", x.hang(1, 1), 1);
            due("d 29", x.hang(29, 1), 29);
            due("d 29, the least", x.hang(29, 0), 16 * 14 + 15);
            due("d 30", x.hang(30, 1), 30);
            gate(x, 15, 15);
            due("the gate alone", x.hang(0, 0), 255);
            due("how far it is", x.hang(0, 1), 30);
        });
        edge("part 3", "(no POSTS: the least such); how far (no POSTS: 0)", () -> {
            NineKeysRound x = new NineKeysRound();
            gate(x, 15, 15);
            due("the gate alone", x.hang(0, 0), 255);
            due("the one above it", x.hang(1, 0), 239);
            due("all", x.hang(30, 0), 0);
            due("all but one", x.hang(29, 0), 1);
            allDue("how far", 0, x.hang(0, 1), x.hang(30, 1));
        });
    }
}
