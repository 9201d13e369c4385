/** Edges of part 4 of the terms: nights by draws, walking in deed, changes, an image. */
final class EdgesOfDeeds extends Edges {
    private EdgesOfDeeds() {
    }

    static void run() {
        nights();
        draws();
        inDeed();
        changes();
        image();
    }

    private static void nights() {
        edge("part 4", "n nights (1 .. 30) of m rounds (1 .. 9)", () -> {
            NineKeysRound x = yard(302);
            due("one round", x.drawn(0, 11, 0), 6);
            due("nine rounds", x.drawn(0, 19, 0), 14);
            due("thirty nights", x.drawn(0, 301, 0), 180);
            due("all of them", x.drawn(0, 309, 0), 30 * 14);
            allBad("no round", x.drawn(0, 10, 0), x.drawn(0, 300, 0), x.drawn(0, 310, 0));
            allBad("no night", x.drawn(0, 0, 0), x.drawn(0, 1, 0), x.drawn(0, 9, 0));
            allBad("too many nights", x.drawn(0, 311, 0), x.drawn(0, TOO_GREAT, 0));
            allBad("below 0", x.drawn(0, -1, 0), x.drawn(0, -11, 0), x.drawn(0, TOO_SMALL, 0));
        });
        edge("part 4", "from THE GATE ahead of a night's first one, from the POST he is at behind it; no POSTS: nothing", () -> {
            NineKeysRound x = three();
            // SEED 3 draws 1 downward, 1 downward: 1, 0, 2, then from 2 to 1, 0, 2 again.
            due("one night of two", x.drawn(3, 12, 0), 18 + 17);
            due("two nights of one", x.drawn(3, 21, 0), 18 + 18);
            NineKeysRound none = new NineKeysRound();
            allDue("no POSTS", 0, none.drawn(3, 11, 0), none.drawn(3, 309, 0), none.drawn(3, 309, 1));
            allBad("nor then", none.drawn(3, 310, 0), none.drawn(3, 11, 2));
        });
        edge("part 4", "minutes together (STANDING counted); the greatest minutes of a night", () -> {
            NineKeysRound x = three();
            // SEED 2 draws 2 upward, then 2 downward.
            due("together", x.drawn(2, 21, 0), 22 + 19);
            due("the greatest is the first", x.drawn(2, 21, 1), 22);
            due("of one night", x.drawn(2, 11, 1), 22);
            x.mend(0, 7, 9);
            due("STANDING counted", x.drawn(2, 11, 0), 22 + 24);
            NineKeysRound still = yard(0);
            still.mend(0, 7, 0);
            due("no minutes", still.drawn(2, 309, 1), 0);
        });
    }

    private static void draws() {
        edge("part 4", "z = z * 1103515245 + 12345 (an int; SEED at first) ahead of each round", () -> {
            NineKeysRound x = three();
            // The least int gives the int whose bits are 2147495993 without a sign: 2 upward.
            due("the least SEED", x.drawn(TOO_SMALL, 11, 0), 22);
            // The greatest gives 1043980748: its (z >>> 8) is 4078049, 2 more than a number by 3; bit 16 is 1.
            due("the greatest SEED", x.drawn(TOO_GREAT, 11, 0), 19);
            // -1 gives 3191464396 without a sign: (z >>> 8) is 12466657, 1 more than a number by 3; bit 16 is 1.
            due("SEED -1", x.drawn(-1, 11, 0), 18);
        });
        edge("part 4", "it goes by numbers upward from POST (z >>> 8) % how many on, round to the one ahead of it", () -> {
            NineKeysRound one = yard(302);
            allDue("one POST", 6, one.drawn(0, 11, 0), one.drawn(3, 11, 0), one.drawn(TOO_SMALL, 11, 0));
            NineKeysRound x = three();
            due("from the first", x.drawn(0, 11, 0), 12);
            due("from the last", x.drawn(2, 11, 0), 22);
        });
        edge("part 4", "or, if (z >>> 16) & 1 is 1, downward", () -> due("from 1 to 0 to 2", three().drawn(3, 11, 0), 18));
    }

    private static void inDeed() {
        edge("part 4", "he is at THE GATE (where it is then; mended, he goes with it), NOW is 0", () -> {
            NineKeysRound x = yard(0);
            due("NOW", x.led(4), 0);
            gate(x, 15, 15);
            due("NOW stays", x.led(4), 0);
            due("from where it is then", x.walk(0), 31);
            due("HOME to where it is then", x.home(), 61);
            gate(x, 0, 0);
            due("he went with it", x.home(), 61);
            x.undo();
            due("and so when that is UNDONE", x.walk(0), 61 + 15 + 1);
        });
        edge("part 4", "NOW goes on; 9999 at most", () -> {
            NineKeysRound x = paced(9, 9, 1515);
            waitTill(x, 9720);
            due("just 9999", x.walk(0), 9999);
            NineKeysRound late = paced(9, 9, 1515);
            waitTill(late, 9721);
            due("10000", late.walk(0), STATE);
            due("NOW stays", late.led(4), 9721);
            due("HOME is no way", late.home(), 9721);
            waitTill(late, 9999);
            due("HOME at 9999", late.home(), 9999);
            due("no more", late.waits(1), STATE);
        });
    }

    private static void changes() {
        edge("part 4", "all numbers of mend(); telling the same number is none", () -> {
            NineKeysRound x = yard(203);
            int[] same = {3, 2, 1, 60, 0, 0, 1, 1};
            for (int what = 0; what < 8; what++) due("the same", x.mend(0, what, same[what]), same[what]);
            due("no change", x.count(2), 0);
            for (int what = 0; what < 8; what++) x.mend(0, what, 5);
            due("all eight", x.count(2), 8);
            for (int i = 7; i >= 0; i--) due("UNDONE", x.undo(), i);
            for (int what = 0; what < 8; what++) due("as it was", x.of(0, what), same[what]);
        });
        edge("part 4", "can be UNDONE, the latest first, and DONE AGAIN (as long as no other came behind)", () -> {
            NineKeysRound x = yard(0);
            x.mend(0, 2, 5);
            x.mend(0, 2, 6);
            x.mend(0, 2, 7);
            x.undo();
            x.undo();
            due("the latest two", x.of(0, 2), 5);
            x.mend(0, 2, 5);
            due("the same number is no other", x.redo(), 1);
            due("the sooner one first", x.of(0, 2), 6);
            x.mend(0, 2, 10);
            x.mend(9, 2, 1);
            due("nor a refused one", x.redo(), 0);
            x.undo();
            x.mend(0, 3, 61);
            due("but this is", x.redo(), STATE);
            due("it stays as it is", x.of(0, 2), 6);
        });
        edge("part 4", "40 at most are kept", () -> {
            NineKeysRound x = yard(0);
            for (int i = 1; i <= 40; i++) x.mend(0, 3, 100 + i);
            due("forty", x.count(2), 40);
            x.mend(0, 3, 141);
            due("forty still", x.count(2), 40);
            for (int i = 39; i >= 0; i--) due("UNDONE", x.undo(), i);
            due("the first is not", x.of(0, 3), 101);
            due("no more", x.undo(), STATE);
            for (int i = 39; i >= 0; i--) due("DONE AGAIN", x.redo(), i);
            due("the last", x.of(0, 3), 141);
            x.undo();
            x.mend(0, 3, 500);
            due("one for another", x.count(2), 40);
        });
        edge("part 4", "deeds are none", () -> {
            NineKeysRound x = yard(0);
            x.mend(0, 2, 5);
            x.undo();
            x.walk(0);
            x.waits(1);
            x.image();
            x.home();
            x.back();
            due("no change", x.count(2), 0);
            due("nothing to undo", x.undo(), STATE);
            due("none came behind", x.redo(), 0);
            due("deeds stay", x.of(0, 8), 1);
        });
    }

    private static void image() {
        edge("part 4", "AN IMAGE keeps where he is, NOW, DENTS of POSTS, what LED tells", () -> {
            NineKeysRound x = three();
            due("at the gate, at first", x.image(), 0);
            x.walk(2);
            x.waits(7);
            due("laid back", x.back(), 0);
            allDue("what LED tells", 0, x.led(0), x.led(1), x.led(2), x.led(3), x.led(4));
            due("DENTS", x.of(2, 8), 0);
            due("he is at the gate", x.walk(0), 3);
            x.image();
            x.home();
            x.back();
            due("he is at a POST", x.walk(0), 4);
            waitTill(x, 9999);
            due("an image of the last minute", x.image(), 9999);
            due("is laid back", x.back(), 9999);
            due("waited", x.led(3), 9995);
        });
    }
}
