/** Edges of part 1 of the terms: posts, gate, rounds, what is seen. */
final class EdgesOfPosts extends Edges {
    private EdgesOfPosts() {
    }

    static void run() {
        numbers();
        rounds();
        dentsThatDoNotMatter();
        seen();
    }

    /** A number of mend(): what it is at first, its ends, and what lies beyond them. */
    private static void range(NineKeysRound x, int number, int what, int atFirst, int least, int most) {
        due("at first", x.of(number, what), atFirst);
        due("becomes the least", x.mend(number, what, least), atFirst);
        allBad("below the least", x.mend(number, what, least - 1), x.mend(number, what, TOO_SMALL));
        due("is the least", x.of(number, what), least);
        due("becomes the most", x.mend(number, what, most), least);
        allBad("above the most", x.mend(number, what, most + 1), x.mend(number, what, TOO_GREAT));
        due("is the most", x.of(number, what), most);
    }

    private static void numbers() {
        edge("part 1", "8, as they come", () -> {
            NineKeysRound x = new NineKeysRound();
            for (int i = 0; i < 8; i++) due("as it comes", x.post(i), i);
            x.row(0, 0, 6);
            due("from a row, one goes in", x.posts(0, 0, 2), 1);
            due("the last is there", x.of(8, 0), 0);
            due("a tenth is not", x.of(9, 0), BAD);
            due("and does not come", x.post(0), FULL);
        });
        edge("part 1", "X, Y (0 .. 15), VALUE", () -> {
            NineKeysRound x = yard(0, 1515);
            range(x, 0, 0, 0, 0, 15);
            range(x, 0, 1, 0, 0, 15);
            range(x, 1, 0, 15, 0, 15);
            range(x, 1, 1, 15, 0, 15);
            allBad("post", x.post(16), x.post(1600), x.post(-1), x.post(1516), x.post(1615));
        });
        edge("part 1", "VALUE (0 .. 9; 1 at first)", () -> range(yard(0, 0), 1, 2, 1, 0, 9));
        edge("part 1", "DUE (1 .. 999 minutes; 60 at first)", () -> range(yard(0, 0), 1, 3, 60, 1, 999));
        edge("part 1", "THE GATE is at X, Y (0 .. 15; 0, 0 at first)", () -> {
            range(new NineKeysRound(), 0, 4, 0, 0, 15);
            range(new NineKeysRound(), 0, 5, 0, 0, 15);
        });
        edge("part 1", "PACE (1 .. 9 minutes a cell; 1 at first)", () -> range(new NineKeysRound(), 0, 6, 1, 1, 9));
        edge("part 1", "STAND (0 .. 9 minutes at a POST; 1 at first)", () -> range(new NineKeysRound(), 0, 7, 1, 0, 9));
        edge("part 1", "From one to another he goes X and Y apart together times PACE", () -> {
            NineKeysRound x = paced(9, 0, 1515, 0, 1515, 1500);
            due("from corner to corner", x.walk(0), 270);
            due("and again", x.walk(1), 540);
            due("X does not stand for Y", x.walk(3), 675);
            due("Y does not stand for X", x.walk(2), 810);
            due("to the same cell", x.walk(0), 810);
        });
    }

    private static void rounds() {
        edge("part 1", "20 at most; it ends with what is none", () -> {
            NineKeysRound x = yard(0, 3);
            int[] lengths = {0, 1, 19, 20, 21, 60};
            for (int n : lengths) {
                x.row(0, 0, n);
                due("a row of " + n, x.round(0, 0), Math.min(20, n));
            }
            x.put(0, 20, 1);
            due("BACK begins with the twentieth", x.success(0, 0, 0, 1), 0);
            int[] none = {2, -1, 9, 127, -128};
            for (int p : none) {
                fill(x, 1, 0, 1, 0, p, 1);
                due("ends with " + p, x.round(1, 0), 2);
                fill(x, 1, 0, p, 1, 0);
                due("ends at once with " + p, x.round(1, 0), 0);
            }
            fill(x, 1, 0, 1, 0, 2, 1);
            x.post(0);
            due("a POST that came goes on", x.round(1, 0), 4);
        });
        edge("part 1", "He begins at THE GATE at minute 0", () -> {
            NineKeysRound x = paced(9, 1, 1515);
            fill(x, 0, 0, 0);
            due("the longest way", x.first(0, 0), 270);
            gate(x, 15, 15);
            due("no way", x.first(0, 0), 0);
            due("in minute 0", x.by(0, 0, 1), 1);
        });
        edge("part 1", "behind its last one he goes to its first one again, and so on for ever", () -> {
            NineKeysRound x = three();
            due("ahead of the second turn", x.by(0, 18, 1), 3);
            due("the second turn", x.by(0, 19, 1), 4);
            due("its POST", x.by(0, 19, 0), 0);
            due("59 turns", x.by(0, 999, 1), 177);
            fill(x, 0, 0);
            due("without POSTS", x.by(0, 999, 1), 0);
        });
        edge("part 1", "from a POST to the same one he goes 0 minutes, DENTS anew", () -> {
            NineKeysRound x = paced(9, 3, 0, 1);
            fill(x, 0, 0, 0, 0);
            due("two", x.by(0, 5, 1), 2);
            due("three", x.by(0, 6, 1), 3);
            due("a turn", x.round(0, 1), 6);
            x.mend(0, 7, 0);
            fill(x, 0, 0, 0, 0, 1);
            // Twice in minute 0, in 9, twice in 18.
            due("twice in a minute", x.by(0, 0, 1), 2);
            due("once elsewhere", x.by(0, 17, 1), 3);
            due("twice again", x.by(0, 18, 1), 5);
        });
        edge("part 1", "BACK: the same from its last one on", () -> {
            NineKeysRound x = three();
            fill(x, 1, 1, 2, 9, 1, 14, 0, 18, 2, 26);
            due("from the last one on", x.which(1), 2);
            fill(x, 0, 0, 1);
            fill(x, 1, 1, 1, 5, 1, 6);
            due("one alone", x.which(1), 3);
            fill(x, 0, 0);
            due("none", x.success(0, 0, 0, 599), 12);
        });
    }

    private static void dentsThatDoNotMatter() {
        edge("part 1", "DENTS beyond minute 1999", () -> {
            NineKeysRound x = paced(9, 4, 1515, 0);
            gate(x, 15, 6);
            fill(x, 0, 0, 0, 1);
            fill(x, 1, 1, 0, 81, 1, 355, 0, 629, 1, 903, 0, 1177, 1, 1451, 0, 1725, 1, 1999);
            due("in minute 1999", x.which(1), 1);
            due("in minute 1999, by an order", x.fit(1, -1), 1);
            gate(x, 15, 9);
            x.mend(0, 7, 8);
            fill(x, 1, 1, 0, 54, 1, 332, 0, 610, 1, 888, 0, 1166, 1, 1444, 0, 1722, 1, 2000);
            due("in minute 2000", x.which(1), 0);
            due("in minute 2000, by an order", x.fit(1, -1), 0);
        });
        edge("part 1", "and more than 4000 of them, do not matter", () -> {
            NineKeysRound x = paced(1, 0, 0, 1);
            x.row(0, 0, 20);
            x.put(0, 19, 1);
            // Each two minutes 19 dents of 0, one of 1: the 4000th is in minute 399.
            due("the 3999th", x.by(0, 398, 1), 3999);
            due("the 4000th", x.by(0, 399, 1), 4000);
            due("no more", x.by(0, 400, 1), 4000);
            due("nor later", x.by(0, 999, 1), 4000);
            due("where it was", x.by(0, 999, 0), 1);
            due("the last of 0", x.unseen(0, 0, 999, 0), 601);
            due("the last of 1", x.unseen(0, 1, 999, 0), 600);
            due("not seen again", x.unseen(0, 0, 400, 1), 0);
            due("in hour 6", x.red(0, 6), 0);
            due("in hour 7", x.red(0, 7), 3);
            due("a thief has time", x.thief(0, 0, 0, 2), 399);
        });
    }

    private static void seen() {
        edge("part 1", "STAND minutes; at least in that one minute", () -> {
            NineKeysRound x = yard(5, 1505);
            fill(x, 0, 0, 0, 1);
            int[] stands = {0, 1, 2, 9};
            for (int stand : stands) {
                x.mend(0, 7, stand);
                int last = 5 + Math.max(1, stand) - 1;
                due("ahead of it", x.unseen(0, 0, 4, 1), 0);
                due("in it", x.unseen(0, 0, 5, 1), 1);
                due("in the last of " + stand, x.unseen(0, 0, last, 1), 1);
                due("behind the last of " + stand, x.unseen(0, 0, last + 1, 1), 0);
            }
        });
        edge("part 1", "how many minutes ago its last DENT was ahead of it or in it (none yet: m and 1)", () -> {
            NineKeysRound x = three();
            due("none in minute 0", x.unseen(0, 1, 0, 0), 1);
            due("none till its minute", x.unseen(0, 1, 5, 0), 6);
            due("in it", x.unseen(0, 1, 6, 0), 0);
            due("behind it", x.unseen(0, 1, 7, 0), 1);
            due("ahead of the next", x.unseen(0, 1, 22, 0), 16);
            due("in the next", x.unseen(0, 1, 23, 0), 0);
            fill(x, 0, 0, 0);
            due("none to the end", x.unseen(0, 1, 999, 0), 1000);
        });
    }
}
