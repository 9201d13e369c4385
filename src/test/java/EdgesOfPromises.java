/** Edges that the promises 1 to 46 name themselves. */
final class EdgesOfPromises extends Edges {
    private EdgesOfPromises() {
    }

    static void run() {
        edge("what it is", "An object is used for at most 512 calls after it has been made", EdgesOfPromises::calls);
        posts();
        law();
        rounds();
        sets();
        thieves();
        papers();
        deeds();
        changes();
        keys();
        shelves();
    }

    /** The 512th call answers as the first ones do, in a yard that was mended in each call between. */
    private static void calls() {
        NineKeysRound x = yard(203);
        for (int i = 2; i <= 510; i++) due("call " + i, x.mend(0, 3, 100 + i % 2), i == 2 ? 60 : 101 - i % 2);
        due("the 511th", x.undo(), 39);
        due("the 512th", x.of(0, 3), 101);
    }

    private static void posts() {
        edge("1", "A yard without posts", () -> {
            NineKeysRound x = new NineKeysRound();
            due("how many", x.count(0), 0);
            allBad("none", x.of(0, 0), x.mend(0, 0, 1), x.walk(0), x.shortest(1, -1), x.of(0, 8));
            due("another's posts are not there", another().count(0), 0);
        });
        edge("2", "BAD, FULL: 9", () -> {
            NineKeysRound x = new NineKeysRound();
            allBad("no cell", x.post(-1), x.post(16), x.post(99), x.post(1516), x.post(1600), x.post(-1515), x.post(TOO_GREAT), x.post(TOO_SMALL));
            for (int i = 0; i < 9; i++) due("its number", x.post(1515), i);
            due("the tenth", x.post(1515), FULL);
            due("nine are there", x.count(0), 9);
        });
        edge("3", "n (1 .. 9) of them: how many came", () -> {
            NineKeysRound x = new NineKeysRound();
            x.row(0, 0, 60);
            allBad("n", x.posts(0, 0, 0), x.posts(0, 0, 10), x.posts(0, 0, -1), x.posts(0, 0, TOO_GREAT));
            due("one", x.posts(0, 0, 1), 1);
            due("nine, of which eight go in", x.posts(0, 0, 9), 8);
            NineKeysRound nine = new NineKeysRound();
            nine.row(0, 0, 60);
            due("nine", nine.posts(0, 0, 9), 9);
        });
        edge("3", "from place i on", () -> {
            NineKeysRound x = new NineKeysRound();
            fill(x, 0, 0, 1, 2, 3, 4, 5);
            due("the last three places", x.posts(0, 2, 1), 1);
            due("X", x.of(0, 0), 3);
            allDue("places that are not there", 0, x.posts(0, 3, 1), x.posts(0, 5, 1), x.posts(0, -1, 1), x.posts(0, -3, 9),
                x.posts(0, TOO_GREAT, 1), x.posts(0, TOO_SMALL, 1), x.posts(0, TOO_GREAT - 2, 9));
            due("none came", x.count(0), 1);
        });
        edge("3", "BAD, -12 (no ROW of bytes; a SHELF that holds nothing is missing)", () -> {
            NineKeysRound x = new NineKeysRound();
            allBad("no such shelf", x.posts(-1, 0, 1), x.posts(6, 0, 1));
            due("it holds nothing", x.posts(0, 0, 1), 0);
            for (int sort = 1; sort < 5; sort++) {
                x.row(0, sort, 9);
                due("no bytes", x.posts(0, 0, 1), -12);
                due("though it has no such place", x.posts(0, 99, 1), -12);
            }
            x.keep(0, x.body(0));
            due("a KEY", x.posts(0, 0, 1), -12);
        });
        edge("4", "(7; number 0 for these) becomes v: what it was. BAD", () -> {
            NineKeysRound x = yard(0, 0);
            allBad("no such post", x.mend(2, 0, 1), x.mend(-1, 1, 1), x.mend(9, 2, 1), x.mend(TOO_GREAT, 3, 1));
            allBad("number 0 for these", x.mend(1, 4, 1), x.mend(1, 5, 1), x.mend(1, 6, 2), x.mend(1, 7, 2), x.mend(-1, 7, 2));
            allBad("no such number", x.mend(0, -1, 1), x.mend(1, -1, 1), x.mend(0, 8, 1), x.mend(0, TOO_SMALL, 1));
            due("the last post", x.mend(1, 0, 7), 0);
            due("what it was", x.mend(1, 0, 8), 7);
            NineKeysRound none = new NineKeysRound();
            due("number 0 without a POST", none.mend(0, 7, 5), 1);
        });
        edge("5", "As of mend() (0 to 7); of a POST 8 how many DENTS it has in deed. BAD", () -> {
            NineKeysRound x = yard(0, 0);
            for (int i = 0; i < 3; i++) x.walk(1);
            due("three", x.of(1, 8), 3);
            due("none", x.of(0, 8), 0);
            allBad("of", x.of(2, 8), x.of(-1, 8), x.of(2, 0), x.of(-1, 3), x.of(1, 4), x.of(1, 7), x.of(0, 9), x.of(0, -1), x.of(1, -1), x.of(1, -4), x.of(TOO_GREAT, 0));
        });
    }

    /** A new object beside one that has posts. */
    private static NineKeysRound another() {
        NineKeysRound x = new NineKeysRound();
        yard(1, 2, 3);
        return x;
    }

    private static void law() {
        edge("6", "A byte (0 .. 255) comes to THE TAPE: how many it has. BAD, FULL (120)", () -> {
            NineKeysRound x = new NineKeysRound();
            allBad("no byte", x.feed(-1), x.feed(256), x.feed(TOO_SMALL), x.feed(TOO_GREAT));
            due("the least", x.feed(0), 1);
            due("the greatest", x.feed(255), 2);
            for (int i = 3; i <= 120; i++) due("feed", x.feed('1'), i);
            due("one more", x.feed('1'), FULL);
            due("a wrong one more", x.feed(256), BAD);
            due("120", x.count(1), 120);
            x.law();
            due("it is empty again", x.feed('1'), 1);
        });
        edge("7", "THE TAPE becomes THE LAW: 1; -100 less its FAULT; THE TAPE is empty then", () -> {
            NineKeysRound x = yard(0);
            fill(x, 0, 0);
            due("an empty tape", x.law(), -100);
            due("a text", law(x, "7"), 1);
            due("empty then", x.count(1), 0);
            due("the law", x.lost(0, 0, 0, 0), 7);
            due("a fault", law(x, "8)"), -101);
            due("empty then, too", x.count(1), 0);
            due("the law that was", x.lost(0, 0, 0, 0), 7);
            due("an empty tape again", x.law(), -100);
            due("the law that was, still", x.lost(0, 0, 0, 0), 7);
            law(x, "m");
            due("by the minute", x.lost(0, 0, 5, 5), 5);
            due("a fault at once", law(x, "x"), -100);
            due("by the minute, still", x.lost(0, 0, 6, 6), 6);
            due("the greatest fault", law(x, "1+".repeat(60)), -220);
            due("a shorter law behind a longer one", law(x, "9"), 1);
            due("that alone", x.lost(0, 0, 0, 0), 9);
        });
    }

    private static void rounds() {
        edge("8", "minutes of one round (1; 0 without POSTS)", () -> {
            NineKeysRound x = three();
            fill(x, 0, 0);
            allDue("none", 0, x.round(0, 0), x.round(0, 1));
            fill(x, 0, 0, 3, 0, 1);
            allDue("none ahead of what is none", 0, x.round(0, 0), x.round(0, 1));
            allBad("what", x.round(0, 2), x.round(0, -1));
        });
        edge("9", "When he DENTS at a POST first (to minute 999). NOT", () -> {
            NineKeysRound x = paced(9, 0, 1515, 0, 900);
            fill(x, 0, 0, 0, 1, 0, 2);
            due("in minute 999", x.first(0, 2), 810 + 9 * 21);
            x.mend(2, 1, 8);
            due("in minute 1008", x.first(0, 2), NOT);
            x.post(0);
            due("never", x.first(0, 3), NOT);
            allBad("no such post", x.first(0, 4), x.first(0, -1));
            // 240, 488, 736, 744, 752, then 30 cells.
            NineKeysRound thousand = paced(8, 8, 1515, 0, 0);
            fill(thousand, 0, 0, 0, 1, 0, 0, 0, 2);
            due("in minute 1000", thousand.first(0, 2), NOT);
        });
        edge("10", "Where he DENTS last by a minute (what 0; NOT), how many DENTS (1)", () -> {
            NineKeysRound x = three();
            due("none yet", x.by(0, 1, 0), NOT);
            due("no DENTS", x.by(0, 1, 1), 0);
            due("the first", x.by(0, 2, 0), 0);
            due("one", x.by(0, 2, 1), 1);
            allBad("what", x.by(0, 2, 2), x.by(0, 2, -1));
        });
        edge("11", "UNSEEN (what 0), whether it is SEEN (1; 1, 0)", () -> {
            NineKeysRound x = three();
            due("UNSEEN for 0", x.unseen(0, 0, 2, 0), 0);
            due("SEEN", x.unseen(0, 0, 2, 1), 1);
            due("not SEEN", x.unseen(0, 0, 3, 1), 0);
            allBad("unseen", x.unseen(0, 0, 2, 2), x.unseen(0, 0, 2, -1), x.unseen(0, 3, 2, 0), x.unseen(0, -1, 2, 0));
        });
        edge("12", "LOST at a POST (-1: all) from a to b (no less than a)", () -> {
            NineKeysRound x = three();
            law(x, "1");
            due("b as a", x.lost(0, 0, 5, 5), 1);
            due("all", x.lost(0, -1, 5, 5), 3);
            allBad("b less than a", x.lost(0, 0, 5, 4), x.lost(0, -1, 999, 0), x.lost(0, -1, 1, 0));
            allBad("no such post", x.lost(0, 3, 5, 5), x.lost(0, -2, 5, 5), x.lost(0, TOO_SMALL, 5, 5));
        });
        edge("13", "RED: bits", () -> {
            NineKeysRound x = yard(0, 0, 0, 0, 0, 0, 0, 0, 0);
            fill(x, 0, 0);
            due("all nine", x.red(0, 0), 511);
            fill(x, 0, 0, 8, 0);
            due("but the first and the last", x.red(0, 0), 511 - 257);
        });
        edge("14", "GAP of a POST. NOT", () -> {
            NineKeysRound x = three();
            x.post(0);
            due("in it", x.gap(0, 0), 17);
            due("not in it", x.gap(0, 3), NOT);
            allBad("no such post", x.gap(0, 4), x.gap(0, -1));
        });
        edge("15", "LATE: bits", () -> {
            NineKeysRound x = yard(0, 0, 0, 0, 0, 0, 0, 0, 0);
            fill(x, 0, 0);
            due("all nine", x.late(0), 511);
            fill(x, 0, 0, 8, 0);
            due("but the first and the last", x.late(0), 511 - 257);
        });
    }

    private static void sets() {
        edge("16", "the k-th POST (NOT: there are not as many)", () -> {
            NineKeysRound x = yard(3, 1, 2);
            due("the first", x.shortest(7, 0), 0);
            due("of one", x.shortest(2, 0), 1);
            due("no second", x.shortest(2, 1), NOT);
            due("no fourth", x.shortest(7, 3), NOT);
            due("of none", x.shortest(0, 0), NOT);
            due("far beyond", x.shortest(7, TOO_GREAT), NOT);
        });
        edge("16", "BAD (POSTS that are not there, too); STATE", () -> {
            NineKeysRound x = yard(3, 1, 2);
            allBad("k", x.shortest(7, -2), x.shortest(7, TOO_SMALL));
            allBad("not there", x.shortest(8, -1), x.shortest(15, 0), x.shortest(512, -1), x.shortest(-1, -1), x.shortest(TOO_SMALL, -1));
            for (int i = 0; i < 6; i++) x.post(0);
            allDue("more than 7", STATE, x.shortest(511, -1), x.shortest(255, -1), x.shortest(511 - 16, 0));
            allBad("not there, nor few", x.shortest(1023, -1), x.shortest(512, -1), x.shortest(TOO_GREAT, -1));
        });
        edge("17", "which (what 0), minutes (1). BAD; STATE; NOT", () -> {
            NineKeysRound x = yard(3, 1, 2);
            allBad("what", x.leftOut(7, 2), x.leftOut(7, -1));
            allBad("not there", x.leftOut(8, 0), x.leftOut(-1, 0), x.leftOut(512, 0));
            allDue("none", NOT, x.leftOut(0, 0), x.leftOut(0, 1));
            for (int i = 0; i < 6; i++) x.post(0);
            due("seven", x.leftOut(127, 0), 0);
            allDue("more than 7", STATE, x.leftOut(255, 0), x.leftOut(255, 1), x.leftOut(511, 0));
        });
    }

    private static void thieves() {
        edge("18", "THIEF. NOT", () -> {
            NineKeysRound x = three();
            due("there is one", x.thief(0, 0, 0, 16), 3);
            due("there is none", x.thief(0, 0, 0, 17), NOT);
            allBad("no such post", x.thief(0, 3, 0, 1), x.thief(0, -1, 0, 1));
        });
        edge("19", "SAFE: bits", () -> {
            NineKeysRound x = yard(0, 0, 0, 0, 0, 0, 0, 0, 0);
            fill(x, 0, 0);
            due("none", x.safe(0, 99), 0);
            fill(x, 0, 0, 8, 0);
            due("the first and the last", x.safe(0, 2), 257);
        });
        edge("20", "GAP of a POST (post 0 on; NOT), the best o (-1; the o told does not matter)", () -> {
            NineKeysRound x = three();
            x.post(0);
            due("not in the ROUND", x.two(0, 3, 0), NOT);
            allDue("the best", 8, x.two(0, -1, 0), x.two(0, -1, -1), x.two(0, -1, 100), x.two(0, -1, TOO_SMALL), x.two(0, -1, TOO_GREAT));
            allBad("no such post", x.two(0, 4, 0), x.two(0, -2, 0));
        });
        edge("21", "SUCCESS in twelfths (m 0 .. 599; pn: 100 p and n)", () -> {
            NineKeysRound x = three();
            x.post(0);
            due("m 0", x.success(0, 3, 0, 1), 12);
            due("m 599", x.success(0, 3, 599, 1299), 12);
            allBad("m", x.success(0, 3, -1, 1), x.success(0, 3, 600, 1), x.success(0, 3, TOO_GREAT, 1));
            allBad("n", x.success(0, 3, 0, 0), x.success(0, 3, 0, 600), x.success(0, 3, 0, 1200));
            allBad("p", x.success(0, 3, 0, 1300), x.success(0, 3, 0, 1301), x.success(0, 3, 0, -1), x.success(0, 3, 0, -101));
            allBad("no such post", x.success(0, 4, 0, 1), x.success(0, -1, 0, 1));
        });
        edge("22", "BEST MINUTE: it (what 0), that (1)", () -> {
            NineKeysRound x = three();
            due("it", x.bestMinute(0, 0, 1, 0), 0);
            due("that", x.bestMinute(0, 0, 1, 1), 12);
            due("1299", x.bestMinute(0, 0, 1299, 1), 0);
            allBad("what", x.bestMinute(0, 0, 1, 2), x.bestMinute(0, 0, 1, -1));
            allBad("pn", x.bestMinute(0, 0, 0, 0), x.bestMinute(0, 0, 1200, 0), x.bestMinute(0, 0, 1300, 0), x.bestMinute(0, 0, 1301, 0));
            allBad("no such post", x.bestMinute(0, 3, 1, 0), x.bestMinute(0, -1, 1, 0));
        });
        edge("23", "MIX for n", () -> {
            NineKeysRound x = three();
            due("1", x.mix(0, 0, 1), 0);
            due("99", x.mix(0, 0, 99), 0);
            allBad("n", x.mix(0, 0, 0), x.mix(0, 0, 100), x.mix(0, 0, -1), x.mix(0, 0, TOO_GREAT));
            allBad("no such post", x.mix(0, 3, 1), x.mix(0, -1, 1));
        });
    }

    private static void papers() {
        edge("24", "A PAPER (no ROW of shorts: -12): POSSIBLE (what 0; NOT), SLEPT (1), where most (2; NOT), FORGED (3). BAD, -11", () -> {
            NineKeysRound x = three();
            for (int what = 0; what < 4; what++) {
                due("nothing", x.paper(1, what), -11);
                due("bytes", x.paper(0, what), -12);
            }
            x.row(1, 1, 0);
            due("POSSIBLE", x.paper(1, 0), NOT);
            due("SLEPT", x.paper(1, 1), 0);
            due("where most", x.paper(1, 2), NOT);
            due("FORGED", x.paper(1, 3), 0);
            allBad("paper", x.paper(1, 4), x.paper(1, -1), x.paper(-1, 0), x.paper(6, 0), x.paper(TOO_SMALL, 0));
        });
        edge("25", "WHICH (rp: 10 times the SHELF of the ROUND, and that of the PAPER): bits. BAD, -11 (either holds nothing), -12", () -> {
            NineKeysRound x = three();
            fill(x, 5, 1, 0, 2);
            fill(x, 4, 0, 2, 1, 0);
            due("0 and 5", x.which(5), 1);
            due("4 and 5", x.which(45), 2);
            x.shift(0, 0, 4, 0, 3);
            x.row(1, 1, 0);
            due("4 and 1", x.which(41), 3);
            allBad("rp", x.which(-1), x.which(6), x.which(9), x.which(16), x.which(56), x.which(60), x.which(65), x.which(TOO_GREAT), x.which(TOO_SMALL));
            allDue("either holds nothing", -11, x.which(25), x.which(2), x.which(22), x.which(20), x.which(52));
            allDue("another kind", -12, x.which(0), x.which(4), x.which(55), x.which(50), x.which(15));
        });
        edge("26", "how many (k -1), the k-th POST of the first (NOT). BAD, -11, -12 (no ROW of shorts); STATE", () -> {
            NineKeysRound x = three();
            x.row(1, 1, 0);
            due("how many", x.fit(1, -1), 6);
            due("the last", x.fit(1, 2), 2);
            due("no more", x.fit(1, 3), NOT);
            allBad("fit", x.fit(1, -2), x.fit(-1, -1), x.fit(6, -1), x.fit(1, TOO_SMALL));
            due("nothing", x.fit(2, -1), -11);
            due("bytes", x.fit(0, -1), -12);
            for (int i = 0; i < 4; i++) x.post(0);
            due("seven", x.fit(1, -1), STATE);
        });
        edge("27", "where (what 0), how far (1). BAD", () -> {
            NineKeysRound x = yard(0);
            due("where", x.hang(0, 0), 0);
            due("how far", x.hang(0, 1), 0);
            allBad("hang", x.hang(0, 2), x.hang(0, -1), x.hang(-1, 0), x.hang(31, 0));
        });
        edge("28", "DRAWN (nm: 10 n and m): minutes (what 0), the greatest of a night (1). BAD", () -> {
            NineKeysRound x = yard(302);
            due("minutes", x.drawn(1, 21, 0), 12);
            due("of a night", x.drawn(1, 21, 1), 6);
            allBad("drawn", x.drawn(1, 21, 2), x.drawn(1, 21, -1), x.drawn(1, 20, 0), x.drawn(1, 2, 0), x.drawn(1, 311, 0));
        });
    }

    private static void deeds() {
        edge("29", "NOW behind STANDING. BAD; STATE: it would be more than 9999", () -> {
            NineKeysRound x = paced(1, 9, 5);
            allBad("no such post", x.walk(1), x.walk(-1), x.walk(9));
            waitTill(x, 9985);
            due("STANDING till 9999", x.walk(0), 9999);
            NineKeysRound late = paced(1, 9, 5);
            waitTill(late, 9986);
            due("STANDING till 10000", late.walk(0), STATE);
            late.mend(0, 7, 8);
            due("a minute less", late.walk(0), 9999);
            due("no STANDING any more", late.walk(0), STATE);
            late.mend(0, 7, 0);
            due("none is wanted", late.walk(0), 9999);
            due("DENTS", late.of(0, 8), 2);
        });
        edge("30", "He WAITS n (1 .. 999) minutes: NOW. BAD; STATE likewise", () -> {
            NineKeysRound x = new NineKeysRound();
            allBad("n", x.waits(0), x.waits(1000), x.waits(-1), x.waits(TOO_GREAT), x.waits(TOO_SMALL));
            due("one", x.waits(1), 1);
            due("999", x.waits(999), 1000);
            waitTill(x, 9990);
            due("till 10000", x.waits(10), STATE);
            due("till 9999", x.waits(9), 9999);
            due("no more", x.waits(1), STATE);
        });
        edge("31", "HOME: NOW. STATE likewise", () -> {
            NineKeysRound x = yard(9);
            x.walk(0);
            waitTill(x, 9990);
            due("till 9999", x.home(), 9999);
            NineKeysRound late = yard(9);
            late.walk(0);
            waitTill(late, 9991);
            due("till 10000", late.home(), STATE);
            due("he is where he was", late.walk(0), 9992);
        });
        edge("32", "walked (what 0), DENTS (1), stood (2), waited (3), NOW (4). BAD", () -> {
            NineKeysRound x = paced(2, 3, 5);
            allDue("at first", 0, x.led(0), x.led(1), x.led(2), x.led(3), x.led(4));
            x.walk(0);
            x.waits(7);
            x.home();
            int[] want = {20, 1, 3, 7, 30};
            for (int what = 0; what < 5; what++) due("led " + what, x.led(what), want[what]);
            allBad("led", x.led(5), x.led(-1), x.led(TOO_GREAT));
        });
        edge("33", "AN IMAGE is kept: NOW", () -> {
            NineKeysRound x = yard(0);
            due("at first", x.image(), 0);
            x.waits(9);
            due("a later one", x.image(), 9);
            x.waits(9);
            due("is the one kept", x.back(), 9);
        });
        edge("34", "It is laid back (POSTS that came since: no DENTS): NOW. STATE: there is none", () -> {
            NineKeysRound x = yard(0);
            due("none", x.back(), STATE);
            x.walk(0);
            x.image();
            x.post(1);
            x.walk(1);
            x.walk(0);
            due("laid back", x.back(), 1);
            due("of a POST that came since", x.of(1, 8), 0);
            due("of the one that was", x.of(0, 8), 1);
            due("it is still there", x.count(0), 2);
            x.walk(1);
            due("and again", x.back(), 1);
            due("no DENTS again", x.of(1, 8), 0);
        });
    }

    private static void changes() {
        edge("35", "UNDONE: how many may still be. STATE: none", () -> {
            NineKeysRound x = new NineKeysRound();
            due("none", x.undo(), STATE);
            x.mend(0, 4, 1);
            x.mend(0, 4, 2);
            due("one may be", x.undo(), 1);
            due("none may be", x.undo(), 0);
            due("none was", x.undo(), STATE);
            due("as at first", x.of(0, 4), 0);
        });
        edge("36", "DONE AGAIN: how many may still be. STATE: none", () -> {
            NineKeysRound x = new NineKeysRound();
            due("none", x.redo(), STATE);
            x.mend(0, 4, 1);
            x.mend(0, 4, 2);
            due("none is UNDONE", x.redo(), STATE);
            x.undo();
            x.undo();
            due("one may be", x.redo(), 1);
            due("none may be", x.redo(), 0);
            due("none was", x.redo(), STATE);
            due("as it was", x.of(0, 4), 2);
        });
    }

    private static void keys() {
        edge("37", "A KEY of a KIND (0 .. 7) is kept: its number. BAD, FULL", () -> {
            NineKeysRound x = new NineKeysRound();
            allBad("kind", x.body(-1), x.body(8), x.body(TOO_SMALL), x.body(TOO_GREAT));
            for (int i = 0; i < 50; i++) due("its number", x.body(i % 2 == 0 ? 0 : 7), i);
            due("a fifty-first", x.body(0), FULL);
            due("a wrong one", x.body(8), BAD);
        });
        edge("38", "An ACT (0 .. 3) of a KEY with x. 0, and no TRACE then: no such KEY, ACT", () -> {
            NineKeysRound x = new NineKeysRound();
            due("no KEY at all", x.act(0, 0, 5), 0);
            x.body(0);
            int[][] none = {{1, 0}, {-1, 0}, {TOO_GREAT, 0}, {0, 4}, {0, -1}, {0, TOO_SMALL}};
            for (int[] call : none) {
                due("it turns", x.act(0, 0, 5), 5);
                due("a TRACE", x.trace(0), 1);
                due("no such", x.act(call[0], call[1], 5), 0);
                due("no TRACE", x.trace(0), BAD);
                due("none ran", x.count(4), 0);
            }
        });
        edge("39", "THE TRACE's i-th body. BAD", () -> {
            NineKeysRound x = new NineKeysRound();
            x.body(0);
            due("none yet", x.trace(0), BAD);
            x.act(0, 1, 0);
            due("the first", x.trace(0), 10);
            due("the last", x.trace(1), 1);
            allBad("no such", x.trace(2), x.trace(-1), x.trace(TOO_SMALL), x.trace(TOO_GREAT));
        });
        edge("45", "taken for a KEY of KIND k (0 .. 7), or under it: its KIND. BAD, -11, -12", () -> {
            NineKeysRound x = new NineKeysRound();
            allBad("k", x.taken(0, -1), x.taken(0, 8), x.taken(0, TOO_GREAT));
            allBad("shelf", x.taken(-1, 0), x.taken(6, 0));
            due("nothing", x.taken(0, 0), -11);
            x.row(0, 0, 1);
            due("a ROW", x.taken(0, 0), -12);
            x.keep(0, x.body(7));
            allDue("under each of them", 7, x.taken(0, 0), x.taken(0, 1), x.taken(0, 4), x.taken(0, 7));
            allDue("not under these", -12, x.taken(0, 2), x.taken(0, 3), x.taken(0, 5), x.taken(0, 6));
            x.keep(0, x.body(0));
            due("of the first KIND", x.taken(0, 0), 0);
            due("which is under none", x.taken(0, 7), -12);
        });
    }

    private static void shelves() {
        edge("40", "A SHELF holds nothing (body -1), or a KEY: 1. BAD", () -> {
            NineKeysRound x = new NineKeysRound();
            due("nothing where nothing was", x.keep(0, -1), 1);
            allBad("no such KEY", x.keep(0, 0), x.keep(0, -2), x.keep(0, 50), x.keep(0, TOO_SMALL));
            for (int i = 0; i < 50; i++) x.body(3);
            due("the last KEY", x.keep(5, 49), 1);
            allBad("beyond it", x.keep(5, 50), x.keep(6, 49), x.keep(-1, 49));
            due("it is there", x.taken(5, 3), 3);
            x.row(0, 0, 3);
            x.keep(0, -1);
            due("no ROW any more", x.put(0, 0, 1), -11);
        });
        edge("41", "A SHELF holds a ROW: 1. BAD (sort, n above 60); -14", () -> {
            NineKeysRound x = new NineKeysRound();
            allBad("sort", x.row(0, -1, 1), x.row(0, 5, 1), x.row(0, 5, -1), x.row(0, TOO_GREAT, 1));
            allBad("n above 60", x.row(0, 0, 61), x.row(0, 0, TOO_GREAT));
            allBad("shelf", x.row(-1, 0, 1), x.row(6, 0, 1), x.row(6, 0, -1));
            allDue("below 0", -14, x.row(0, 0, -1), x.row(0, 0, TOO_SMALL));
            due("nothing came of it", x.put(0, 0, 1), -11);
            allDue("a ROW", 1, x.row(0, 0, 0), x.row(0, 4, 60), x.row(5, 0, 60));
        });
        edge("42", "Element i of a ROW becomes v: 1. BAD, -11, -12, -13", () -> {
            NineKeysRound x = new NineKeysRound();
            x.row(1, 0, 2);
            x.keep(2, x.body(0));
            allBad("shelf", x.put(-1, 0, 1), x.put(6, 0, 1));
            allDue("nothing", -11, x.put(0, 0, 1), x.put(0, -1, 1));
            allDue("a KEY", -12, x.put(2, 0, 1), x.put(2, -1, 1));
            allDue("no place", -13, x.put(1, 2, 1), x.put(1, -1, 1), x.put(1, TOO_GREAT, 1), x.put(1, TOO_SMALL, 1));
            allDue("a place", 1, x.put(1, 0, 1), x.put(1, 1, 1));
        });
        edge("43", "Element i of a ROW; Long.MIN_VALUE: BAD, -11 to -13", () -> {
            NineKeysRound x = new NineKeysRound();
            x.row(1, 3, 2);
            x.put(1, 1, Long.MIN_VALUE + 1);
            x.keep(2, x.body(0));
            allDue("refused", Long.MIN_VALUE, x.element(-1, 0), x.element(6, 0), x.element(0, 0), x.element(2, 0), x.element(1, 2), x.element(1, -1),
                x.element(1, TOO_GREAT), x.element(1, TOO_SMALL));
            due("the first", x.element(1, 0), 0);
            due("the last", x.element(1, 1), Long.MIN_VALUE + 1);
        });
        edge("44", "as they all were before: n", () -> {
            NineKeysRound x = new NineKeysRound();
            int[] up = {1, 1, 2, 3}, down = {1, 2, 3, 3};
            for (int sort = 0; sort < 4; sort++) {
                fill(x, 0, sort, 1, 2, 3, 4);
                due("upward", x.shift(0, 0, 0, 1, 3), 3);
                for (int i = 0; i < 4; i++) due("upward " + i, x.element(0, i), up[i]);
                due("downward", x.shift(0, 1, 0, 0, 3), 3);
                for (int i = 0; i < 4; i++) due("downward " + i, x.element(0, i), down[i]);
                due("none", x.shift(0, 4, 0, 4, 0), 0);
                due("all where they are", x.shift(0, 0, 0, 0, 4), 4);
            }
        });
        edge("44", "BAD, -11 (either), -12 (no ROWS, or of unlike sorts), -13", () -> {
            NineKeysRound x = new NineKeysRound();
            x.row(1, 2, 3);
            x.row(2, 1, 3);
            x.row(5, 2, 2);
            x.keep(3, x.body(0));
            allBad("shelf", x.shift(-1, 0, 1, 0, 0), x.shift(1, 0, -1, 0, 0), x.shift(6, 0, 1, 0, 0), x.shift(1, 0, 6, 0, 0), x.shift(0, 0, 6, 0, 0));
            allDue("either", -11, x.shift(0, 0, 1, 0, 0), x.shift(1, 0, 0, 0, 0), x.shift(0, 0, 0, 0, 0), x.shift(3, 0, 0, 0, 0), x.shift(0, 9, 3, 9, 9));
            allDue("no ROWS", -12, x.shift(3, 0, 1, 0, 0), x.shift(1, 0, 3, 0, 0), x.shift(3, 0, 3, 0, 0));
            allDue("unlike sorts", -12, x.shift(1, 0, 2, 0, 1), x.shift(2, 0, 1, 0, 0), x.shift(1, 9, 2, 9, 9));
            allDue("from no place", -13, x.shift(1, -1, 5, 0, 1), x.shift(1, 3, 5, 0, 1), x.shift(1, 2, 5, 0, 2), x.shift(1, 4, 5, 0, 0));
            allDue("to no place", -13, x.shift(1, 0, 5, -1, 1), x.shift(1, 0, 5, 2, 1), x.shift(1, 0, 5, 1, 2), x.shift(1, 0, 5, 3, 0));
            allDue("not as many", -13, x.shift(1, 0, 5, 0, -1), x.shift(1, 0, 5, 0, 3), x.shift(1, 0, 5, 0, TOO_GREAT), x.shift(1, 0, 5, 0, TOO_SMALL));
            allDue("far beyond", -13, x.shift(1, TOO_GREAT, 5, 0, 1), x.shift(1, 0, 5, TOO_GREAT, 1), x.shift(1, 1, 5, 1, TOO_GREAT));
            due("as many as there are", x.shift(1, 1, 5, 0, 2), 2);
        });
        edge("46", "4 bodies that ran in the latest act(). BAD", () -> {
            NineKeysRound x = yard(1, 2);
            for (int i = 0; i < 3; i++) x.feed('1');
            for (int i = 1; i < 5; i++) x.mend(0, 2, i + 1);
            for (int i = 0; i < 5; i++) x.body(0);
            x.act(4, 3, 0);
            int[] want = {2, 3, 4, 5, 4};
            for (int what = 0; what < 5; what++) due("count " + what, x.count(what), want[what]);
            allBad("count", x.count(5), x.count(-1), x.count(TOO_GREAT), x.count(TOO_SMALL));
        });
    }
}
