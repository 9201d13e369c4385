/** For each promise of the document: ordinary inputs, its edges, wrong inputs; the answers are reckoned by hand. */
public final class PromisesTest extends Checks {
    private PromisesTest() {
    }

    public static void main(String[] args) {
        newObject();
        post();
        posts();
        mend();
        of();
        feed();
        law();
        lawFaults();
        lawWorth();
        round();
        first();
        by();
        unseen();
        lost();
        red();
        gap();
        late();
        shortest();
        leftOut();
        thief();
        safe();
        two();
        success();
        bestMinute();
        mix();
        paper();
        which();
        fit();
        hang();
        drawn();
        walk();
        waits();
        home();
        led();
        imageAndBack();
        undoAndRedo();
        body();
        act();
        trace();
        keep();
        row();
        put();
        element();
        shift();
        taken();
        count();
        roundRefusals();
        end("all promises hold");
    }

    private static void newObject() {
        promise = "1 a new object";
        NineKeysRound x = new NineKeysRound();
        for (int what = 0; what < 5; what++) due("count", x.count(what), 0);
        for (int what = 0; what < 5; what++) due("led", x.led(what), 0);
        due("gate X", x.of(0, 4), 0);
        due("gate Y", x.of(0, 5), 0);
        due("pace", x.of(0, 6), 1);
        due("stand", x.of(0, 7), 1);
        due("no post", x.of(0, 0), BAD);
        for (int shelf = 0; shelf < 6; shelf++) due("shelf", x.taken(shelf, 0), -11);
        due("no image", x.back(), STATE);
        due("nothing to undo", x.undo(), STATE);
        due("nothing to redo", x.redo(), STATE);
        due("no trace", x.trace(0), BAD);
        due("VOID", NineKeysRound.VOID, -2000000000);
    }

    private static void post() {
        promise = "2 post";
        NineKeysRound x = new NineKeysRound();
        due("first", x.post(1015), 0);
        due("X", x.of(0, 0), 15);
        due("Y", x.of(0, 1), 10);
        due("VALUE", x.of(0, 2), 1);
        due("DUE", x.of(0, 3), 60);
        due("DENTS", x.of(0, 8), 0);
        allBad("post", x.post(-1), x.post(16), x.post(99), x.post(1516), x.post(1600), x.post(-101), x.post(TOO_GREAT), x.post(TOO_SMALL));
        for (int i = 1; i < 9; i++) due("more", x.post(1515), i);
        due("the tenth", x.post(0), FULL);
        due("a bad tenth", x.post(16), BAD);
        due("how many", x.count(0), 9);
        due("not a change", x.count(2), 0);
    }

    private static void posts() {
        promise = "3 posts";
        NineKeysRound x = new NineKeysRound();
        due("a row that is missing", x.posts(1, 0, 3), 0);
        fill(x, 1, 0, 7, 1, 2, 9, 15, 0, 0, 3, 4);
        due("within a three", x.posts(1, 1, 9), 2);
        due("X", x.of(0, 0), 1);
        due("Y", x.of(0, 1), 2);
        due("VALUE", x.of(0, 2), 9);
        due("DUE", x.of(0, 3), 60);
        due("X of the second", x.of(1, 0), 15);
        due("only as many", x.posts(1, 1, 1), 1);
        due("beyond the end", x.posts(1, 9, 1), 0);
        due("far beyond", x.posts(1, TOO_GREAT, 9), 0);
        due("ahead of the row", x.posts(1, -1, 9), 0);
        due("two of three", x.posts(1, 7, 1), 0);
        due("the last three", x.posts(1, 6, 9), 1);
        due("its VALUE", x.of(3, 2), 4);
        due("how many", x.count(0), 4);
        fill(x, 2, 0, 1, 1, 1, 16, 1, 1, 1, 1, 1);
        due("one is not so", x.posts(2, 0, 3), 1);
        fill(x, 2, 0, 1, 1, 10);
        due("VALUE is not so", x.posts(2, 0, 1), 0);
        fill(x, 2, 0, 1, -1, 1);
        due("Y is not so", x.posts(2, 0, 1), 0);
        x.row(3, 0, 60);
        due("full", x.posts(3, 0, 9), 4);
        due("still full", x.posts(3, 0, 1), 0);
        allBad("posts", x.posts(-1, 0, 1), x.posts(6, 0, 1), x.posts(1, 0, 0), x.posts(1, 0, 10), x.posts(0, 0, -1));
        x.row(4, 1, 9);
        due("shorts", x.posts(4, 0, 1), -12);
        due("BAD ahead of -12", x.posts(4, 0, 0), BAD);
        x.keep(4, x.body(0));
        due("a KEY", x.posts(4, 0, 1), -12);
    }

    private static void mend() {
        promise = "4 mend";
        NineKeysRound x = yard(203, 0);
        int[] was = {3, 2, 1, 60, 0, 0, 1, 1};
        int[] least = {0, 0, 0, 1, 0, 0, 1, 0};
        int[] most = {15, 15, 9, 999, 15, 15, 9, 9};
        for (int what = 0; what < 8; what++) {
            due("what it was", x.mend(0, what, most[what]), was[what]);
            due("too small", x.mend(0, what, least[what] - 1), BAD);
            due("too great", x.mend(0, what, most[what] + 1), BAD);
            due("stays", x.of(0, what), most[what]);
            due("back to least", x.mend(0, what, least[what]), most[what]);
            due("least", x.of(0, what), least[what]);
        }
        due("the other post stays", x.of(1, 3), 60);
        allBad("mend", x.mend(2, 0, 1), x.mend(-1, 0, 1), x.mend(1, 4, 1), x.mend(1, 7, 1), x.mend(-1, 6, 1),
            x.mend(0, 8, 1), x.mend(0, -1, 1), x.mend(TOO_SMALL, 3, 1), x.mend(0, TOO_GREAT, 1));
        due("changes", x.count(2), 16);
        due("the same number", x.mend(0, 0, 0), 0);
        due("is no change", x.count(2), 16);
    }

    private static void of() {
        promise = "5 of";
        NineKeysRound x = yard(203, 1415);
        due("X", x.of(1, 0), 15);
        due("Y", x.of(1, 1), 14);
        x.mend(1, 2, 7);
        due("VALUE", x.of(1, 2), 7);
        x.mend(1, 3, 999);
        due("DUE", x.of(1, 3), 999);
        x.mend(0, 4, 6);
        x.mend(0, 5, 8);
        x.mend(0, 6, 2);
        x.mend(0, 7, 3);
        due("gate X", x.of(0, 4), 6);
        due("gate Y", x.of(0, 5), 8);
        due("PACE", x.of(0, 6), 2);
        due("STAND", x.of(0, 7), 3);
        x.walk(1);
        x.walk(1);
        due("DENTS", x.of(1, 8), 2);
        due("no DENTS", x.of(0, 8), 0);
        allBad("of", x.of(2, 0), x.of(-1, 0), x.of(1, 4), x.of(1, 7), x.of(2, 8), x.of(-1, 8), x.of(0, 9), x.of(0, -1));
    }

    private static void feed() {
        promise = "6 feed";
        NineKeysRound x = new NineKeysRound();
        allBad("feed", x.feed(-1), x.feed(256), x.feed(TOO_GREAT));
        for (int i = 1; i <= 120; i++) due("feed", x.feed(i % 2 == 0 ? 255 : 0), i);
        due("full", x.feed(1), FULL);
        due("BAD ahead of FULL", x.feed(256), BAD);
        due("how many", x.count(1), 120);
    }

    private static void law() {
        promise = "7 law";
        NineKeysRound x = three();
        due("an empty tape", x.law(), -100);
        due("a text", law(x, "7"), 1);
        due("the tape is empty then", x.count(1), 0);
        due("it counts", x.lost(0, 0, 0, 1), 14);
        due("a fault", law(x, "7+"), -102);
        due("the tape is empty then too", x.count(1), 0);
        due("the law stays", x.lost(0, 0, 0, 1), 14);
        due("a new one", law(x, "8"), 1);
        due("it counts instead", x.lost(0, 0, 0, 1), 16);
        due("at full length", law(x, "v+".repeat(59) + "10"), 1);
    }

    private static void fault(String text, int place) {
        due(text, law(new NineKeysRound(), text), -100 - place);
    }

    private static void lawFaults() {
        promise = "7 law, faults";
        fault(" v", 0);
        fault("x", 0);
        fault("v v", 1);
        fault("12345", 4);
        fault("v;", 2);
        fault(";v", 0);
        fault("v?v?v", 3);
        fault("v?", 2);
        fault("(v?v)", 2);
        fault("v<v<v", 3);
        fault("v<v=v", 3);
        fault("v<(v<v)<v", 7);
        fault("(v", 2);
        fault("v)", 1);
        fault("()", 1);
        fault("v+*v", 2);
        fault("v&&v", 2);
        fault("v!v", 1);
        fault("vv", 1);
        fault("3v", 1);
        fault("v" + (char) 200, 1);
        fault("" + (char) 0, 0);
        fault("((((((v))))))", -101);
        fault("(((((((v)))))))", 6);
        fault("!!!!!!v", -101);
        fault("!!!!!!!v", 6);
        fault("------v", -101);
        fault("v-------v", -101);
        fault("v--------v", 8);
        fault("v-------(", 8);
        fault("(!-(!-v", 7);
        fault("(!-(!-(", 6);
        fault("(!-(!-v))+!!!!!!v", -101);
        fault("v<v&v=v|v>v;v?v;1", -101);
        fault("v+v<v*v", -101);
        fault("v+".repeat(60), 120);
    }

    /** What a text gives at a post of VALUE 3, DUE 25, unseen for 3 minutes in minute 2, not in the round of two. */
    private static void worth(String text, int want) {
        NineKeysRound x = yard(0, 1, 2);
        x.mend(2, 2, 3);
        x.mend(2, 3, 25);
        fill(x, 0, 0, 0, 1);
        due("reads " + text, law(x, text), 1);
        due(text, x.lost(0, 2, 2, 2), want);
    }

    private static void lawWorth() {
        promise = "7, 12 what a law gives";
        worth("v*1000+u*100+m*10+5-3300+d*100-2500", 25);
        worth("p*10+n", 22);
        worth("m", 2);
        worth("0?5;7", 7);
        worth("1?5;7", 5);
        worth("0-3?5;7", 5);
        worth("0?5;0?6", 0);
        worth("5;6", 5);
        worth("0;6", 0);
        worth("1?0;6", 0);
        worth("7/2", 3);
        worth("10+-7/2", 7);
        worth("10+-7%2", 9);
        worth("9+7/0", 9);
        worth("9+7%0", 9);
        worth("2|0", 1);
        worth("0|0", 0);
        worth("5&6", 1);
        worth("5&0", 0);
        worth("1<2", 1);
        worth("2<2", 0);
        worth("2=2", 1);
        worth("3>2", 1);
        worth("2>2", 0);
        worth("!0", 1);
        worth("!5", 0);
        worth("!!5", 1);
        worth("--5", 5);
        worth("10-3-2", 5);
        worth("40/4/2", 5);
        worth("2+3*4", 14);
        worth("(2+3)*4", 20);
        worth("1+1<3", 1);
        worth("5-(1<2)", 4);
        worth("0&0|1", 1);
        worth("1|1&0", 1);
        worth("-2*-3", 6);
        worth("!0*7", 7);
        worth("0007", 7);
        worth("100", 99);
        worth("99", 99);
        worth("-1", 0);
        worth("9999*9999*9999*9999/9999999%100*0+4".replace("9999999", "9999"), 4);
        worth("(9999*9999*30>0)*5", 0);
    }

    private static void round() {
        promise = "8 round";
        NineKeysRound x = three();
        due("POSTS", x.round(0, 0), 3);
        due("minutes", x.round(0, 1), 17);
        x.mend(0, 6, 9);
        x.mend(0, 7, 0);
        due("by PACE, STAND", x.round(0, 1), 126);
        fill(x, 1, 0);
        due("no POSTS", x.round(1, 0), 0);
        due("no minutes", x.round(1, 1), 0);
        fill(x, 1, 0, 0, 1, 3, 2);
        due("ends with what is none", x.round(1, 0), 2);
        fill(x, 1, 0, -1, 1);
        due("ends at once", x.round(1, 0), 0);
        x.row(1, 0, 21);
        due("20 at most", x.round(1, 0), 20);
        x.mend(0, 7, 2);
        due("the same one", x.round(1, 1), 40);
        fill(x, 1, 0, 2);
        due("one alone", x.round(1, 1), 2);
        allBad("round", x.round(0, 2), x.round(0, -1), x.round(-1, 0), x.round(6, 0), x.round(5, 2));
    }

    private static void first() {
        promise = "9 first";
        NineKeysRound x = three();
        due("post 0", x.first(0, 0), 2);
        due("post 1", x.first(0, 1), 6);
        due("post 2", x.first(0, 2), 11);
        x.post(1515);
        due("not in it", x.first(0, 3), NOT);
        allBad("first", x.first(0, 4), x.first(0, -1), x.first(6, 0), x.first(-1, 0));
        NineKeysRound far = yard(1515, 0, 1500, 909, 1005);
        far.mend(0, 6, 9);
        far.mend(0, 7, 9);
        // 270 there, then 279 each time: the third comes back at 828, and the fourth is at 1107.
        fill(far, 0, 0, 0, 1, 0, 1, 2);
        due("twice there", far.first(0, 1), 549);
        due("beyond minute 999", far.first(0, 2), NOT);
        fill(far, 0, 0, 0, 1, 0, 3);
        due("to minute 999", far.first(0, 3), 945);
        fill(far, 0, 0, 0, 1, 0, 4);
        due("at minute 972", far.first(0, 4), 972);
        far.mend(0, 7, 0);
        far.mend(4, 0, 0);
        far.mend(4, 1, 9);
        due("at minute 999", far.first(0, 4), 999);
        far.mend(4, 1, 8);
        due("at minute 1008", far.first(0, 4), NOT);
    }

    private static void by() {
        promise = "10 by";
        NineKeysRound x = three();
        due("none yet", x.by(0, 1, 0), NOT);
        due("no DENTS yet", x.by(0, 1, 1), 0);
        due("in its minute", x.by(0, 2, 0), 0);
        due("one", x.by(0, 2, 1), 1);
        due("behind it", x.by(0, 18, 0), 2);
        due("three", x.by(0, 18, 1), 3);
        due("the next turn", x.by(0, 19, 0), 0);
        due("four", x.by(0, 19, 1), 4);
        due("to the end", x.by(0, 999, 1), 177);
        allBad("by", x.by(0, -1, 0), x.by(0, 1000, 0), x.by(0, 0, 2), x.by(0, 0, -1), x.by(6, 0, 0));
        NineKeysRound still = yard(0, 0, 0);
        still.mend(0, 7, 0);
        fill(still, 0, 0, 0, 1, 2);
        due("4000 at most", still.by(0, 0, 1), 4000);
        due("where the 4000th is", still.by(0, 999, 0), 0);
        // Twenty dents each two minutes: the 4000th comes in minute 399.
        NineKeysRound dense = yard(0, 1);
        dense.mend(0, 7, 0);
        dense.row(0, 0, 20);
        dense.put(0, 19, 1);
        due("before the 4000th", dense.by(0, 398, 1), 3999);
        due("with the 4000th", dense.by(0, 399, 1), 4000);
        due("no more", dense.by(0, 999, 1), 4000);
        due("unseen from then on", dense.unseen(0, 1, 999, 0), 600);
        due("red from then on", dense.red(0, 7), 3);
    }

    private static void unseen() {
        promise = "11 unseen";
        NineKeysRound x = three();
        due("none yet", x.unseen(0, 1, 0, 0), 1);
        due("still none", x.unseen(0, 1, 5, 0), 6);
        due("in its minute", x.unseen(0, 1, 6, 0), 0);
        due("behind it", x.unseen(0, 1, 22, 0), 16);
        due("again", x.unseen(0, 1, 23, 0), 0);
        due("not seen ahead", x.unseen(0, 1, 5, 1), 0);
        due("seen", x.unseen(0, 1, 6, 1), 1);
        due("not seen behind", x.unseen(0, 1, 7, 1), 0);
        x.mend(0, 7, 3);
        // Dents at 2, 8, 15 now.
        due("seen at first", x.unseen(0, 1, 8, 1), 1);
        due("seen while he stands", x.unseen(0, 1, 10, 1), 1);
        due("not seen then", x.unseen(0, 1, 11, 1), 0);
        due("two ago", x.unseen(0, 1, 10, 0), 2);
        x.mend(0, 7, 0);
        due("at least that minute", x.unseen(0, 1, 5, 1), 1);
        due("no more", x.unseen(0, 1, 6, 1), 0);
        fill(x, 0, 0, 0);
        due("not in the round", x.unseen(0, 1, 999, 0), 1000);
        allBad("unseen", x.unseen(0, 3, 0, 0), x.unseen(0, -1, 0, 0), x.unseen(0, 0, -1, 0), x.unseen(0, 0, 1000, 0),
            x.unseen(0, 0, 0, 2), x.unseen(0, 0, 0, -1), x.unseen(6, 0, 0, 0));
    }

    private static void lost() {
        promise = "12 lost";
        NineKeysRound x = three();
        x.mend(1, 2, 5);
        // Unseen 1 .. 6 of minutes 0 .. 5: 0, 1, 1, 2, 2, 3; seen in 6; then 1 .. 3: 0, 1, 1.
        due("by v times u by 10", x.lost(0, 1, 0, 9), 11);
        due("one minute", x.lost(0, 1, 5, 5), 3);
        due("a seen one", x.lost(0, 1, 6, 6), 0);
        fill(x, 1, 0);
        due("held within 99", x.lost(1, 1, 999, 999), 99);
        due("at all", x.lost(1, -1, 9, 9), 7);
        law(x, "p+1");
        due("at all by a text", x.lost(0, -1, 2, 2), 5);
        due("all, also not in the round", x.lost(1, -1, 2, 3), 12);
        law(x, "n*10+d");
        due("n, d", x.lost(0, 0, 3, 3), 90);
        due("no POSTS", new NineKeysRound().lost(0, -1, 0, 0), -11);
        allBad("lost", x.lost(0, -2, 0, 0), x.lost(0, 3, 0, 0), x.lost(0, 0, -1, 0), x.lost(0, 0, 0, 1000), x.lost(0, 0, 5, 4), x.lost(6, 0, 0, 0));
    }

    private static void red() {
        promise = "13 red";
        NineKeysRound x = three();
        due("all are dented", x.red(0, 0), 0);
        x.post(0);
        due("but one", x.red(0, 15), 8);
        x.mend(0, 6, 9);
        // Dents at 18, 46, 83, 147, 175, 212, 276.
        due("hour 0", x.red(0, 0), 12);
        due("hour 1", x.red(0, 1), 11);
        due("hour 2", x.red(0, 2), 12);
        due("hour 3", x.red(0, 3), 11);
        allBad("red", x.red(0, -1), x.red(0, 16), x.red(6, 0), x.red(-1, 0));
        NineKeysRound edge = yard(1515, 0);
        edge.mend(0, 6, 2);
        edge.mend(0, 7, 0);
        fill(edge, 0, 0, 0, 1);
        // 60, 120, 180, ..
        due("none ahead of it", edge.red(0, 0), 3);
        due("a dent in its first minute", edge.red(0, 1), 2);
        due("the other one's", edge.red(0, 2), 1);
        edge.mend(0, 6, 1);
        edge.mend(0, 7, 9);
        edge.mend(0, 4, 10);
        edge.mend(0, 5, 10);
        fill(edge, 0, 0, 1, 0);
        // 20, 59, 98, 137.
        due("a dent in the minute ahead", edge.red(0, 1), 1);
        due("a dent in the last minute", edge.red(0, 0), 0);
        edge.mend(0, 4, 0);
        edge.mend(0, 5, 0);
        edge.mend(0, 6, 9);
        edge.mend(0, 7, 7);
        fill(edge, 0, 0, 0, 1);
        // 270, 547, 824.
        due("a dent behind it", edge.red(0, 8), 3);
        due("a dent within it", edge.red(0, 9), 1);
    }

    private static void gap() {
        promise = "14 gap";
        NineKeysRound x = three();
        due("a turn", x.gap(0, 0), 17);
        fill(x, 0, 0, 0, 1, 0, 2);
        // Dents of 0 at 2, 10, 26.
        due("the longer of two", x.gap(0, 0), 16);
        due("of the other", x.gap(0, 1), 24);
        x.mend(0, 4, 15);
        x.mend(0, 5, 15);
        due("from minute 0 on", x.gap(0, 1), 32);
        fill(x, 0, 0, 0);
        x.mend(0, 7, 0);
        due("a turn of 0 minutes", x.gap(0, 0), 28);
        due("not in it", x.gap(0, 1), NOT);
        NineKeysRound still = yard(0);
        still.mend(0, 7, 9);
        fill(still, 0, 0, 0);
        due("the same one again", still.gap(0, 0), 9);
        allBad("gap", x.gap(0, 3), x.gap(0, -1), x.gap(6, 0), x.gap(-1, 0));
        NineKeysRound far = yard(1515, 0);
        far.mend(0, 6, 9);
        far.mend(0, 7, 9);
        fill(far, 0, 0, 0, 1, 0, 1, 0, 1, 0, 1, 0, 1, 0, 1, 0, 1, 0, 1, 0, 0);
        due("from one turn to the next", far.gap(0, 1), 279 + 9 + 9 + 279);
        due("within a turn", far.gap(0, 0), 558);
        far.post(0);
        fill(far, 0, 0, 0, 1, 0, 1, 0, 1, 0, 1, 2);
        due("beyond minute 1999", far.gap(0, 2), 7 * 279 + 9 + 9 + 270);
    }

    private static void late() {
        promise = "15 late";
        NineKeysRound x = three();
        due("none", x.late(0), 0);
        x.mend(1, 3, 17);
        due("as long as due", x.late(0), 0);
        x.mend(1, 3, 16);
        due("too long", x.late(0), 2);
        x.post(0);
        due("not in it", x.late(0), 10);
        allBad("late", x.late(6), x.late(-1));
    }

    private static void shortest() {
        promise = "16 shortest";
        NineKeysRound x = yard(5, 2, 405, 400);
        due("nothing", x.shortest(0, -1), 0);
        due("no first", x.shortest(0, 0), NOT);
        due("all", x.shortest(15, -1), 22);
        int[] order = {1, 0, 2, 3};
        for (int k = 0; k < 4; k++) due("of like ones the first", x.shortest(15, k), order[k]);
        due("not as many", x.shortest(15, 4), NOT);
        due("far too many", x.shortest(15, TOO_GREAT), NOT);
        due("one", x.shortest(4, -1), 19);
        x.mend(0, 6, 3);
        x.mend(0, 7, 5);
        due("by PACE, STAND", x.shortest(4, -1), 59);
        allBad("shortest", x.shortest(16, -1), x.shortest(-1, -1), x.shortest(15, -2), x.shortest(TOO_SMALL, 0));
        NineKeysRound nine = yard(1, 2, 3, 4, 5, 6, 7, 8, 9);
        due("seven", nine.shortest(127, -1), 21);
        due("the seventh", nine.shortest(127, 6), 6);
        due("the last seven", nine.shortest(508, -1), 25);
        due("eight", nine.shortest(255, -1), STATE);
        due("BAD ahead of STATE", nine.shortest(255, -2), BAD);
        due("nine", nine.shortest(511, 0), STATE);
    }

    private static void leftOut() {
        promise = "17 leftOut";
        NineKeysRound x = yard(5, 2, 405, 400);
        due("which", x.leftOut(15, 0), 0);
        due("minutes", x.leftOut(15, 1), 21);
        due("of two", x.leftOut(6, 0), 2);
        due("minutes of two", x.leftOut(6, 1), 5);
        due("of one", x.leftOut(8, 0), 3);
        due("nothing is left", x.leftOut(8, 1), 0);
        due("none is in it", x.leftOut(0, 0), NOT);
        due("no minutes", x.leftOut(0, 1), NOT);
        allBad("leftOut", x.leftOut(16, 0), x.leftOut(-1, 0), x.leftOut(1, 2), x.leftOut(1, -1));
        NineKeysRound nine = yard(1, 2, 3, 4, 5, 6, 7, 8, 9);
        due("seven", nine.leftOut(127, 0), 6);
        due("minutes of seven", nine.leftOut(127, 1), 18);
        due("eight", nine.leftOut(255, 0), STATE);
        due("nine", nine.leftOut(511, 1), STATE);
    }

    private static void thief() {
        promise = "18 thief";
        NineKeysRound x = three();
        // Post 1 is seen in minutes 6, 23, 40, ..
        due("at once", x.thief(0, 1, 0, 6), 0);
        due("a minute too long", x.thief(0, 1, 0, 7), 7);
        due("a whole turn", x.thief(0, 1, 0, 16), 7);
        due("too long", x.thief(0, 1, 0, 17), NOT);
        due("from later on", x.thief(0, 1, 8, 16), 24);
        due("within", x.thief(0, 1, 8, 15), 8);
        due("seen just then", x.thief(0, 1, 23, 1), 24);
        // 992 is seen, the next time is 1009.
        due("ends beyond", x.thief(0, 1, 992, 16), 993);
        due("too late", x.thief(0, 1, 994, 16), NOT);
        due("the last minute", x.thief(0, 1, 999, 10), 999);
        due("the last minute, too long", x.thief(0, 1, 999, 11), NOT);
        x.mend(0, 7, 3);
        due("while he stands", x.thief(0, 1, 8, 2), 11);
        allBad("thief", x.thief(0, 3, 0, 1), x.thief(0, -1, 0, 1), x.thief(0, 0, -1, 1), x.thief(0, 0, 1000, 1),
            x.thief(0, 0, 0, 0), x.thief(0, 0, 0, 100), x.thief(6, 0, 0, 1));
    }

    private static void safe() {
        promise = "19 safe";
        NineKeysRound x = three();
        due("never long enough", x.safe(0, 17), 7);
        due("long enough", x.safe(0, 16), 0);
        x.post(0);
        due("not in it", x.safe(0, 99), 7);
        fill(x, 0, 0, 1);
        due("always there", x.safe(0, 6), 2);
        due("but for the first minutes", x.safe(0, 5), 0);
        allBad("safe", x.safe(0, 0), x.safe(0, 100), x.safe(6, 1), x.safe(-1, 1));
    }

    private static void two() {
        promise = "20 two";
        NineKeysRound x = three();
        due("together", x.two(0, 1, 0), 17);
        due("behind one another", x.two(0, 1, 5), 12);
        due("evenly", x.two(0, 1, 8), 9);
        due("best", x.two(0, -1, 0), 8);
        due("the o told does not matter", x.two(0, -1, TOO_SMALL), 8);
        fill(x, 1, 0, 0);
        due("of like ones the least", x.two(1, -1, 0), 0);
        // Dents of 1 from minute 7 on: 13, 23, 30, ..; that in 6 does not count.
        due("from minute o on", x.two(0, 1, 7), 10);
        x.post(1515);
        due("not in it", x.two(0, 3, 0), NOT);
        NineKeysRound far = yard(1515);
        far.mend(0, 6, 9);
        far.mend(0, 7, 9);
        far.post(0);
        fill(far, 0, 0, 0, 1, 0, 1);
        // 270, 549, 828, 1107.
        due("one dent of each", far.two(0, 1, 99), 99);
        due("one dent twice", far.two(0, 1, 0), 0);
        due("the greatest of all is least", far.two(0, -1, 0), 99);
        fill(far, 0, 0);
        due("none counts", far.two(0, -1, 0), 0);
        allBad("two", x.two(0, 4, 0), x.two(0, -2, 0), x.two(0, 0, -1), x.two(0, 0, 100), x.two(6, -1, 0));
        NineKeysRound late = yard(1515, 0, 1500);
        late.mend(0, 6, 9);
        late.mend(0, 7, 9);
        fill(late, 0, 0, 0, 1, 0, 2);
        // Post 2 is dented first in minute 972: its second comes within 999 up to 27 minutes later.
        due("the second in minute 999", late.two(0, 2, 27), 27);
        due("the second too late", late.two(0, 2, 28), NOT);
        NineKeysRound soon = yard(1515, 0, 707);
        soon.mend(0, 6, 7);
        soon.mend(0, 7, 9);
        fill(soon, 0, 0, 2, 0, 1, 0, 1, 0);
        // Post 2 is dented in minute 98, and 1118 later.
        due("the first in minute o", soon.two(0, 2, 98), 98);
        due("the first ahead of it", soon.two(0, 2, 99), NOT);
        NineKeysRound bunch = yard(0, 1515, 0);
        bunch.mend(0, 6, 8);
        bunch.mend(0, 7, 2);
        fill(bunch, 0, 0, 0, 0, 0, 0, 0, 0, 0, 0, 0, 0, 0, 0, 0, 0, 0, 1, 2, 1);
        // Post 0 is dented in 0, 2, .. 28, then in 996, 998.
        due("a gap near the end", bunch.two(0, 0, 0), 968);
    }

    private static void success() {
        promise = "21 success";
        NineKeysRound x = three();
        // Forth post 0 is seen in 2, 19, ..; BACK 2, 1, 0 are dented in 9, 14, 18, and 9 again in 26.
        due("both see", x.success(0, 0, 0, 719), 0);
        due("BACK alone sees", x.success(0, 0, 18, 701), 7);
        due("forth alone sees", x.success(0, 0, 19, 701), 5);
        due("none sees", x.success(0, 0, 20, 701), 12);
        due("never BACK", x.success(0, 0, 18, 1201), 12);
        due("always BACK", x.success(0, 0, 18, 1), 0);
        due("longer", x.success(0, 0, 3, 716), 7);
        due("to the last one", x.success(0, 0, 599, 1299), 0);
        x.post(1515);
        due("not in it", x.success(0, 3, 599, 1299), 12);
        allBad("success", x.success(0, 4, 0, 1), x.success(0, -1, 0, 1), x.success(0, 0, -1, 1), x.success(0, 0, 600, 1),
            x.success(0, 0, 0, 0), x.success(0, 0, 0, 100), x.success(0, 0, 0, 1300), x.success(0, 0, 0, 1301), x.success(0, 0, 0, -1),
            x.success(6, 0, 0, 1));
    }

    private static void bestMinute() {
        promise = "22 bestMinute";
        NineKeysRound x = three();
        // Forth 0 is free from 3 to 18, BACK to 17: then both from 20 on to 34, for 15 minutes.
        due("for 15 both ways", x.bestMinute(0, 0, 615, 0), 3);
        due("how likely", x.bestMinute(0, 0, 615, 1), 12);
        due("for 16 one way", x.bestMinute(0, 0, 716, 0), 3);
        due("how likely one way", x.bestMinute(0, 0, 716, 1), 7);
        due("for 17 BACK at first", x.bestMinute(0, 0, 717, 0), 0);
        due("how likely BACK", x.bestMinute(0, 0, 717, 1), 5);
        due("for 19 never", x.bestMinute(0, 0, 719, 0), 0);
        due("how likely never", x.bestMinute(0, 0, 719, 1), 0);
        NineKeysRound near = yard(0, 1);
        near.mend(0, 4, 1);
        fill(near, 0, 0, 0, 1);
        // Forth post 0 is seen in 1, 5, 9; BACK in 2, 6, 10.
        due("of like ones the first", near.bestMinute(0, 0, 603, 0), 2);
        due("how likely for 3", near.bestMinute(0, 0, 603, 1), 6);
        due("BACK is likelier", near.bestMinute(0, 0, 503, 0), 3);
        due("how likely BACK for 3", near.bestMinute(0, 0, 503, 1), 7);
        NineKeysRound once = yard(0);
        once.mend(0, 7, 0);
        fill(once, 0, 0, 0);
        due("minute 1", once.bestMinute(0, 0, 605, 0), 1);
        due("surely", once.bestMinute(0, 0, 605, 1), 12);
        allBad("bestMinute", x.bestMinute(0, 3, 1, 0), x.bestMinute(0, -1, 1, 0), x.bestMinute(0, 0, 0, 0), x.bestMinute(0, 0, 1301, 0),
            x.bestMinute(0, 0, -1, 0), x.bestMinute(0, 0, 1, 2), x.bestMinute(0, 0, 1, -1), x.bestMinute(6, 0, 1, 0));
    }

    private static void mix() {
        promise = "23 mix";
        NineKeysRound x = three();
        due("no odds help", x.mix(0, 0, 15), 0);
        // For 16 minutes there are minutes free forth alone and BACK alone, none free both ways.
        due("even odds", x.mix(0, 0, 16), 6);
        // For 17 or 18 it is free BACK alone, in the first minutes.
        due("never BACK", x.mix(0, 0, 17), 12);
        due("never BACK for 18", x.mix(0, 0, 18), 12);
        due("never free", x.mix(0, 0, 19), 0);
        // The other way round post 2, which BACK comes to first: it is free forth alone.
        due("ever BACK", x.mix(0, 2, 17), 0);
        allBad("mix", x.mix(0, 3, 1), x.mix(0, -1, 1), x.mix(0, 0, 0), x.mix(0, 0, 100), x.mix(6, 0, 1));
    }

    private static void paper() {
        promise = "24 paper";
        NineKeysRound x = three();
        paperDue(x, NOT, 0, NOT, 0);
        paperDue(x, NOT, 0, NOT, 0, 0, 2, 1, 6, 2, 11);
        paperDue(x, NOT, 9, 1, 0, 0, 5, 1, 13, 2, 20);
        paperDue(x, NOT, 6, 0, 0, 0, 5, 1, 12);
        paperDue(x, 0, 0, NOT, 1, 0, 1);
        paperDue(x, 1, 3, 0, 1, 0, 5, 1, 8, 2, 13);
        paperDue(x, 1, 0, NOT, 2, 0, 2, 3, 9, 2, 99, 2, 101);
        paperDue(x, 0, 0, NOT, 2, -1, 50, 0, 60);
        paperDue(x, 1, 1, 0, 1, 0, 3, 1);
        paperDue(x, 0, 0, NOT, 1, 0);
        paperDue(x, 0, 0, NOT, 1, 0, -5);
        paperDue(x, NOT, 4, 1, 0, 0, 2, 0, 7);
        paperDue(x, 1, 0, NOT, 1, 0, 2, 0, 2);
        x.mend(0, 6, 2);
        x.mend(0, 7, 0);
        paperDue(x, NOT, 1, 1, 0, 0, 4, 1, 11, 1, 11);
        NineKeysRound here = yard(0);
        paperDue(here, 0, 0, NOT, 1, 0);
        paperDue(here, 1, 0, NOT, 1, 0, 0, 0);
        allBad("paper", x.paper(3, 4), x.paper(3, -1), x.paper(6, 0), x.paper(-1, 0), x.paper(5, 4));
        due("bytes", x.paper(0, 0), -12);
        due("nothing", x.paper(5, 0), -11);
        x.keep(5, x.body(1));
        due("a KEY", x.paper(5, 0), -12);
    }

    private static void which() {
        promise = "25 which";
        NineKeysRound x = three();
        fill(x, 3, 1, 0, 2, 1, 6, 2, 11, 0, 19);
        due("forth", x.which(3), 1);
        fill(x, 3, 1, 2, 9, 1, 14, 0, 18, 2, 26);
        due("BACK", x.which(3), 2);
        fill(x, 3, 1, 2, 9, 1, 14, 0, 18, 2, 27);
        due("neither", x.which(3), 0);
        fill(x, 3, 1, 1, 9);
        due("another post", x.which(3), 0);
        fill(x, 3, 1);
        due("both", x.which(3), 3);
        fill(x, 3, 1, 0, 2, 1);
        due("one lacks", x.which(3), 0);
        fill(x, 1, 0, 0, 0);
        fill(x, 3, 1, 0, 2, 0, 3);
        due("both ways the same", x.which(13), 3);
        fill(x, 1, 0);
        due("no POSTS", x.which(13), 0);
        allBad("which", x.which(-1), x.which(60), x.which(6), x.which(9), x.which(69), x.which(TOO_SMALL));
        due("one shelf for both", x.which(0), -12);
        due("no paper", x.which(5), -11);
        due("no round", x.which(53), -11);
        due("no round, and no shorts", x.which(50), -11);
        due("bytes for a paper", x.which(1), -12);
        due("shorts for a round", x.which(33), -12);
        NineKeysRound far = yard(1515, 0);
        far.mend(0, 6, 9);
        fill(far, 0, 0, 0, 1);
        fill(far, 1, 1, 0, 270, 1, 541, 0, 812, 1, 1083, 0, 1354, 1, 1625, 0, 1896);
        due("to minute 1999", far.which(1), 1);
        fill(far, 1, 1, 0, 270, 1, 541, 0, 812, 1, 1083, 0, 1354, 1, 1625, 0, 1896, 1, 2167);
        due("beyond minute 1999", far.which(1), 0);
        far.mend(0, 4, 15);
        far.mend(0, 5, 6);
        far.mend(0, 7, 4);
        fill(far, 1, 1, 0, 81, 1, 355, 0, 629, 1, 903, 0, 1177, 1, 1451, 0, 1725, 1, 1999);
        due("in minute 1999", far.which(1), 1);
        far.mend(0, 5, 9);
        far.mend(0, 7, 8);
        fill(far, 1, 1, 0, 54, 1, 332, 0, 610, 1, 888, 0, 1166, 1, 1444, 0, 1722, 1, 2000);
        due("in minute 2000", far.which(1), 0);
        fill(far, 1, 1, 0, 54, 1, 332, 0, 610, 1, 888, 0, 1166, 1, 1444, 0, 1722);
        due("but for that", far.which(1), 1);
        NineKeysRound here = yard(0);
        fill(here, 0, 0, 0);
        fill(here, 1, 1, 0, 0, 0, 1, 0, 2);
        due("one POST alone", here.which(1), 3);
        fill(here, 1, 1, 0);
        due("its minute lacks", here.which(1), 0);
    }

    private static void fit() {
        promise = "26 fit";
        NineKeysRound x = three();
        fill(x, 3, 1);
        due("any order", x.fit(3, -1), 6);
        due("the first", x.fit(3, 2), 2);
        due("no fourth", x.fit(3, 3), NOT);
        fill(x, 3, 1, 1, 5);
        due("two orders", x.fit(3, -1), 2);
        int[] order = {1, 0, 2};
        for (int k = 0; k < 3; k++) due("the first of two", x.fit(3, k), order[k]);
        fill(x, 3, 1, 2, 9, 0, 17, 1, 21, 2, 26);
        due("one order", x.fit(3, -1), 1);
        due("its first", x.fit(3, 0), 2);
        fill(x, 3, 1, 2, 9, 0, 17, 1, 21, 0, 25);
        due("not round", x.fit(3, -1), 0);
        due("none is first", x.fit(3, 0), NOT);
        fill(x, 3, 1, 0, 2, 0, 3);
        due("a post twice", x.fit(3, -1), 0);
        fill(x, 3, 1, 3, 2);
        due("no such post", x.fit(3, -1), 0);
        fill(x, 3, 1, 0, 2, 1);
        due("one lacks", x.fit(3, -1), 0);
        allBad("fit", x.fit(3, -2), x.fit(6, -1), x.fit(-1, -1), x.fit(5, -2));
        due("nothing", x.fit(5, -1), -11);
        due("bytes", x.fit(0, -1), -12);
        x.post(1);
        x.post(3);
        x.post(4);
        fill(x, 3, 1, 5, 4);
        due("six", x.fit(3, -1), 120);
        due("the last of six", x.fit(3, 5), 4);
        x.post(6);
        due("seven", x.fit(3, -1), STATE);
        due("-12 ahead of STATE", x.fit(0, 0), -12);
        due("-11 ahead of STATE", x.fit(5, 0), -11);
        due("BAD ahead of STATE", x.fit(3, -2), BAD);
        NineKeysRound none = new NineKeysRound();
        none.row(0, 1, 0);
        due("no POSTS, no DENTS", none.fit(0, -1), 1);
        none.row(0, 1, 2);
        due("no POSTS, a DENT", none.fit(0, -1), 0);
    }

    private static void hang() {
        promise = "27 hang";
        NineKeysRound x = new NineKeysRound();
        x.mend(0, 4, 3);
        x.mend(0, 5, 2);
        due("no POSTS", x.hang(0, 0), 35);
        due("the least such", x.hang(1, 0), 19);
        due("no way", x.hang(30, 1), 0);
        x.post(203);
        x.mend(0, 6, 9);
        due("the gate alone", x.hang(0, 0), 35);
        due("there is a POST", x.hang(0, 1), 0);
        due("farthest, the least", x.hang(2, 0), 3);
        due("how far, in cells", x.hang(2, 1), 2);
        due("all cells", x.hang(30, 0), 255);
        due("how far at most", x.hang(30, 1), 25);
        x.post(1515);
        due("from the nearest", x.hang(30, 0), 224);
        due("how far then", x.hang(30, 1), 15);
        allBad("hang", x.hang(-1, 0), x.hang(31, 0), x.hang(0, 2), x.hang(0, -1));
    }

    private static void drawn() {
        promise = "28 drawn";
        NineKeysRound x = three();
        // SEED 0: z is 12345; (z >>> 8) % 3 is 0, bit 16 is 0: 0, 1, 2.
        due("one round", x.drawn(0, 11, 0), 12);
        // Then z is 3554416254 without its sign: 0 again, and bit 16 is 0.
        due("two rounds", x.drawn(0, 12, 0), 12 + 17);
        due("two nights", x.drawn(0, 21, 0), 12 + 12);
        // SEED 3 draws 1 downward, 1 downward, 0 downward.
        due("downward", x.drawn(3, 11, 0), 5 + 1 + 3 + 1 + 7 + 1);
        due("from where he is", x.drawn(3, 13, 0), 18 + 17 + 21);
        due("three nights", x.drawn(3, 31, 0), 18 + 18 + 16);
        // SEED 2 draws 2 upward, 2 downward.
        due("round to the one ahead", x.drawn(2, 21, 0), 22 + 19);
        due("the greatest night", x.drawn(2, 21, 1), 22);
        x.mend(0, 6, 2);
        x.mend(0, 7, 0);
        due("by PACE, STAND", x.drawn(3, 11, 0), 30);
        due("one post", drawnByOne(0, 309), 30 * (5 + 9));
        NineKeysRound here = yard(0);
        here.mend(0, 7, 0);
        due("no minutes", here.drawn(0, 309, 1), 0);
        due("no POSTS", new NineKeysRound().drawn(7, 309, 0), 0);
        due("no night", new NineKeysRound().drawn(7, 309, 1), 0);
        allBad("drawn", x.drawn(0, 10, 0), x.drawn(0, 9, 0), x.drawn(0, 0, 0), x.drawn(0, -11, 0), x.drawn(0, 311, 0), x.drawn(0, 300, 0),
            x.drawn(0, 11, 2), x.drawn(0, 11, -1), new NineKeysRound().drawn(0, 10, 0));
    }

    private static int drawnByOne(int seed, int nm) {
        return yard(302).drawn(seed, nm, 0);
    }

    private static void walk() {
        promise = "29 walk";
        NineKeysRound x = three();
        x.mend(0, 6, 2);
        x.mend(0, 7, 3);
        due("from the gate", x.walk(1), 13);
        due("to another", x.walk(2), 24);
        due("to the same", x.walk(2), 27);
        due("DENTS", x.of(2, 8), 2);
        x.mend(2, 0, 0);
        due("the post is mended: he goes with it", x.walk(0), 27 + 12 + 3);
        allBad("walk", x.walk(3), x.walk(-1), new NineKeysRound().walk(0));
        NineKeysRound late = yard(2);
        for (int i = 0; i < 10; i++) late.waits(999);
        late.waits(6);
        due("9999 is not more", late.walk(0), 9999);
        due("more than 9999", late.walk(0), STATE);
        due("nothing changes", late.of(0, 8), 1);
        due("NOW stays", late.led(4), 9999);
        NineKeysRound far = yard(9);
        for (int i = 0; i < 11; i++) far.waits(i < 10 ? 999 : 5);
        due("the way is too long", far.walk(0), STATE);
        due("nothing was walked", far.led(0), 0);
        NineKeysRound gate = yard(2);
        gate.mend(0, 4, 15);
        due("where the gate is then", gate.walk(0), 14);
    }

    private static void waits() {
        promise = "30 waits";
        NineKeysRound x = yard(0);
        due("one", x.waits(1), 1);
        due("the most", x.waits(999), 1000);
        allBad("waits", x.waits(0), x.waits(1000), x.waits(-5), x.waits(TOO_GREAT));
        for (int i = 0; i < 9; i++) x.waits(999);
        due("more than 9999", x.waits(9), STATE);
        due("9999", x.waits(8), 9999);
        due("no more", x.waits(1), STATE);
        due("waited", x.led(3), 9999);
        due("BAD ahead of STATE", x.waits(0), BAD);
    }

    private static void home() {
        promise = "31 home";
        NineKeysRound x = three();
        due("is there", x.home(), 0);
        x.walk(2);
        x.mend(0, 6, 2);
        due("goes", x.home(), 10 + 18);
        due("there again", x.home(), 28);
        x.mend(0, 4, 9);
        due("goes with it", x.walk(0), 28 + 14 + 1);
        for (int i = 0; i < 9; i++) x.waits(999);
        x.waits(952);
        due("more than 9999", x.home(), STATE);
        due("stays there", x.led(4), 9986);
        x.mend(0, 6, 1);
        due("near enough", x.home(), 9993);
        due("at the gate", x.home(), 9993);
        NineKeysRound late = yard(9);
        late.walk(0);
        for (int i = 0; i < 10; i++) late.waits(i < 9 ? 999 : 989);
        due("9999 is not more", late.home(), 9999);
    }

    private static void led() {
        promise = "32 led";
        NineKeysRound x = three();
        x.mend(0, 7, 4);
        x.walk(1);
        x.walk(0);
        x.waits(30);
        x.waits(7);
        x.home();
        int[] want = {10, 2, 8, 37, 55};
        for (int what = 0; what < 5; what++) due("led " + what, x.led(what), want[what]);
        allBad("led", x.led(5), x.led(-1));
    }

    private static void imageAndBack() {
        promise = "33, 34 image, back";
        NineKeysRound x = three();
        due("none", x.back(), STATE);
        x.walk(1);
        x.waits(4);
        due("image", x.image(), 10);
        x.walk(2);
        x.waits(9);
        x.home();
        x.post(0);
        x.walk(3);
        x.mend(1, 2, 8);
        due("back", x.back(), 10);
        int[] want = {5, 1, 1, 4, 10};
        for (int what = 0; what < 5; what++) due("led " + what, x.led(what), want[what]);
        due("DENTS as they were", x.of(1, 8), 1);
        due("no DENTS since", x.of(2, 8), 0);
        due("of a POST that came since", x.of(3, 8), 0);
        due("posts stay", x.count(0), 4);
        due("a change is no deed", x.of(1, 2), 8);
        due("changes stay", x.count(2), 1);
        due("where he was", x.walk(1), 11);
        due("it is still kept", x.back(), 10);
        x.home();
        due("a later one", x.image(), 15);
        x.walk(0);
        due("counts instead", x.back(), 15);
        due("he is at the gate", x.home(), 15);
    }

    private static void undoAndRedo() {
        promise = "35, 36 undo, redo";
        NineKeysRound x = yard(203);
        due("nothing to undo", x.undo(), STATE);
        due("nothing to redo", x.redo(), STATE);
        x.mend(0, 2, 5);
        x.mend(0, 6, 3);
        x.mend(0, 2, 7);
        due("undo", x.undo(), 2);
        due("the latest first", x.of(0, 2), 5);
        due("undo", x.undo(), 1);
        due("PACE", x.of(0, 6), 1);
        due("redo", x.redo(), 1);
        due("PACE again", x.of(0, 6), 3);
        x.mend(0, 6, 3);
        x.mend(0, 6, 10);
        x.walk(0);
        x.post(0);
        due("no other came behind", x.redo(), 0);
        due("VALUE again", x.of(0, 2), 7);
        due("no more", x.redo(), STATE);
        x.undo();
        x.undo();
        due("may be undone", x.count(2), 1);
        x.mend(0, 0, 9);
        due("another came behind", x.redo(), STATE);
        due("undo it", x.undo(), 1);
        due("X", x.of(0, 0), 3);
        due("undo the first", x.undo(), 0);
        due("VALUE", x.of(0, 2), 1);
        due("none is left", x.undo(), STATE);
        for (int i = 1; i <= 43; i++) x.mend(0, 3, i);
        due("40 are kept", x.count(2), 40);
        for (int i = 39; i >= 0; i--) due("undo 40", x.undo(), i);
        due("the oldest are kept no more", x.undo(), STATE);
        due("DUE", x.of(0, 3), 3);
        for (int i = 39; i >= 0; i--) due("redo 40", x.redo(), i);
        due("DUE again", x.of(0, 3), 43);
        undoOfManyPlaces();
    }

    /** 45 changes, by turns of DUE and of the gate's X, of which the first five are kept no more. */
    private static void undoOfManyPlaces() {
        NineKeysRound x = yard(0);
        for (int i = 1; i <= 45; i++) x.mend(0, i % 2 == 0 ? 3 : 4, i % 2 == 0 ? 100 + i : 1 + i % 3);
        for (int i = 45; i > 5; i--) {
            x.undo();
            due("DUE behind undo " + i, x.of(0, 3), 100 + (i - 1) / 2 * 2);
            due("gate X behind undo " + i, x.of(0, 4), 1 + (i % 2 == 0 ? i - 1 : i - 2) % 3);
        }
        due("no more", x.undo(), STATE);
        for (int i = 6; i <= 45; i++) {
            x.redo();
            due("DUE behind redo " + i, x.of(0, 3), 100 + i / 2 * 2);
            due("gate X behind redo " + i, x.of(0, 4), 1 + (i % 2 == 0 ? i - 1 : i) % 3);
        }
        due("no more", x.redo(), STATE);
    }

    private static void body() {
        promise = "37 body";
        NineKeysRound x = new NineKeysRound();
        allBad("body", x.body(-1), x.body(8), x.body(TOO_GREAT));
        for (int i = 0; i < 50; i++) due("body", x.body(i % 8), i);
        due("full", x.body(0), FULL);
        due("BAD ahead of FULL", x.body(8), BAD);
        due("how many", x.count(3), 50);
    }

    private static void act() {
        promise = "38 act";
        NineKeysRound x = new NineKeysRound();
        for (int kind = 0; kind < 8; kind++) x.body(kind);
        // By kinds: turns(5), sees(5), fears(5), tells(5), with n as the kind.
        int[][] want = {
            {5, 10, 5, 10 - 1},
            {9, 18, 4, 18 - 0},
            {7, -14, 7, -14 - 3},
            {8, -18, 18, -18 - 6},
            {12, 24, 1 - 9, 24 - (5 - 9)},
            {10, -22, 0, (-22 - 12) ^ 5},
            {22, 44, 3, 44 - 7},
            {15, 30 + (5 - 12), 2 - 12, 23 - (6 - 12) - 1},
        };
        for (int kind = 0; kind < 8; kind++) {
            for (int act = 0; act < 4; act++) due("kind " + kind + " act " + act, x.act(kind, act, 5), want[kind][act]);
        }
        due("wraps", x.act(0, 1, 1 << 30), TOO_SMALL);
        x.act(0, 3, 1);
        due("no such KEY", x.act(8, 0, 5), 0);
        due("no trace then", x.count(4), 0);
        due("no trace to tell", x.trace(0), BAD);
        x.act(0, 3, 1);
        due("no such ACT", x.act(0, 4, 5), 0);
        due("no trace then", x.count(4), 0);
        due("below", x.act(-1, 0, 5), 0);
        due("below", x.act(0, -1, 5), 0);
    }

    private static void trace() {
        promise = "39 trace";
        NineKeysRound x = new NineKeysRound();
        int[][] want = {
            {2, 10, 1, 11},
            {2, 10, 20, 1, 11},
            {2, 30, 10, 1, 11},
            {2, 41, 30, 10, 1, 40, 11},
            {2, 10, 20, 1, 50, 11, 20, 1},
            {60, 2, 41, 30, 10, 1, 40, 11},
            {2, 10, 70, 1, 11},
            {81, 2, 80, 10, 20, 1, 50, 11, 20, 1, 50, 11, 20, 1},
        };
        for (int kind = 0; kind < 8; kind++) {
            x.body(kind);
            x.act(kind, 3, 0);
            due("how many of kind " + kind, x.count(4), want[kind].length);
            for (int i = 0; i < want[kind].length; i++) due("kind " + kind + " body " + i, x.trace(i), want[kind][i]);
            allBad("trace", x.trace(want[kind].length), x.trace(-1), x.trace(24), x.trace(TOO_SMALL));
        }
    }

    private static void keep() {
        promise = "40 keep";
        NineKeysRound x = new NineKeysRound();
        allBad("keep", x.keep(0, 0), x.keep(6, -1), x.keep(-1, -1), x.keep(0, -2));
        x.body(3);
        due("a KEY", x.keep(5, 0), 1);
        due("is there", x.taken(5, 0), 3);
        due("nothing", x.keep(5, -1), 1);
        due("is not there", x.taken(5, 0), -11);
        x.row(2, 3, 4);
        due("instead of a row", x.keep(2, 0), 1);
        due("no row", x.put(2, 0, 1), -12);
        due("no such KEY", x.keep(2, 1), BAD);
        due("it stays", x.taken(2, 0), 3);
    }

    private static void row() {
        promise = "41 row";
        NineKeysRound x = new NineKeysRound();
        allBad("row", x.row(-1, 0, 1), x.row(6, 0, 1), x.row(0, 5, 1), x.row(0, -1, 1), x.row(0, 0, 61), x.row(0, 5, -1));
        due("nothing changed", x.element(0, 0), Long.MIN_VALUE);
        for (int sort = 0; sort < 5; sort++) {
            due("the longest", x.row(sort, sort, 60), 1);
            due("its last", x.element(sort, 59), 0);
            x.put(sort, 7, 1);
            due("anew", x.row(sort, sort, 8), 1);
            due("0 at first", x.element(sort, 7), 0);
            due("no more", x.element(sort, 8), Long.MIN_VALUE);
        }
        due("of none", x.row(0, 0, 0), 1);
        due("has none", x.put(0, 0, 1), -13);
        due("below 0", x.row(1, 1, -1), -14);
        due("far below 0", x.row(1, 1, TOO_SMALL), -14);
        due("nothing changed", x.element(1, 7), 0);
    }

    private static void put() {
        promise = "42 put";
        NineKeysRound x = new NineKeysRound();
        long v = 0x1234567890ABCDEFL;
        long[] want = {(byte) 0xEF, (short) 0xCDEF, 0x90ABCDEF, v, 1};
        for (int sort = 0; sort < 5; sort++) {
            x.row(0, sort, 3);
            due("put", x.put(0, 2, v), 1);
            due("lowest bits", x.element(0, 2), want[sort]);
            due("another stays", x.element(0, 1), 0);
            x.put(0, 2, 0);
            due("0", x.element(0, 2), 0);
            due("beyond", x.put(0, 3, 1), -13);
            due("ahead", x.put(0, -1, 1), -13);
        }
        x.row(0, 4, 1);
        x.put(0, 0, 256);
        due("whether it is not 0", x.element(0, 0), 1);
        allBad("put", x.put(6, 0, 1), x.put(-1, 0, 1));
        due("nothing", x.put(1, 99, 1), -11);
        x.keep(1, x.body(0));
        due("a KEY", x.put(1, 99, 1), -12);
    }

    private static void element() {
        promise = "43 element";
        NineKeysRound x = new NineKeysRound();
        x.row(2, 3, 2);
        x.put(2, 1, Long.MAX_VALUE);
        due("a long", x.element(2, 1), Long.MAX_VALUE);
        x.keep(3, x.body(0));
        long[] refused = {x.element(2, 2), x.element(2, -1), x.element(3, 0), x.element(4, 0), x.element(6, 0), x.element(-1, 0)};
        for (long answer : refused) due("refused", answer, Long.MIN_VALUE);
    }

    private static void elements(NineKeysRound x, int shelf, int... want) {
        for (int i = 0; i < want.length; i++) due("element " + i, x.element(shelf, i), want[i]);
    }

    private static void shift() {
        promise = "44 shift";
        NineKeysRound x = new NineKeysRound();
        fill(x, 0, 2, 1, 2, 3, 4, 5);
        fill(x, 1, 2, 0, 0, 0);
        due("to another", x.shift(0, 3, 1, 1, 2), 2);
        elements(x, 1, 0, 4, 5);
        due("upward in the same", x.shift(0, 0, 0, 1, 4), 4);
        elements(x, 0, 1, 1, 2, 3, 4);
        due("downward in the same", x.shift(0, 2, 0, 0, 3), 3);
        elements(x, 0, 2, 3, 4, 3, 4);
        due("none", x.shift(0, 5, 1, 3, 0), 0);
        due("beyond the first", x.shift(0, 4, 1, 0, 2), -13);
        due("beyond the other", x.shift(0, 0, 1, 2, 2), -13);
        due("none from beyond", x.shift(0, 6, 1, 0, 0), -13);
        due("none to beyond", x.shift(0, 0, 1, 4, 0), -13);
        due("ahead", x.shift(0, -1, 1, 0, 1), -13);
        due("to ahead", x.shift(0, 0, 1, -1, 1), -13);
        due("fewer than none", x.shift(0, 0, 1, 0, -1), -13);
        due("far beyond", x.shift(0, TOO_GREAT, 1, TOO_GREAT, TOO_GREAT), -13);
        elements(x, 1, 0, 4, 5);
        x.row(2, 3, 5);
        due("of unlike sorts", x.shift(0, 0, 2, 0, 1), -12);
        due("-12 ahead of -13", x.shift(0, 0, 2, 0, 99), -12);
        x.keep(3, x.body(0));
        due("a KEY", x.shift(3, 0, 0, 0, 1), -12);
        due("to a KEY", x.shift(0, 0, 3, 0, 1), -12);
        due("two KEYS", x.shift(3, 0, 3, 0, 0), -12);
        x.row(5, 2, 4);
        x.keep(5, 0);
        due("a KEY where a row of the sort was", x.shift(5, 0, 0, 0, 0), -12);
        due("to a KEY where a row of the sort was", x.shift(0, 0, 5, 0, 0), -12);
        due("nothing", x.shift(4, 0, 0, 0, 1), -11);
        due("to nothing", x.shift(0, 0, 4, 0, 1), -11);
        due("-11 ahead of -12", x.shift(3, 0, 4, 0, 1), -11);
        allBad("shift", x.shift(6, 0, 0, 0, 1), x.shift(0, 0, 6, 0, 1), x.shift(-1, 0, 0, 0, 1), x.shift(4, 0, -1, 0, 1));
    }

    private static void taken() {
        promise = "45 taken";
        NineKeysRound x = new NineKeysRound();
        // Bit k: a KEY of this kind is of kind k or under it.
        int[] kindsAbove = {0x01, 0x03, 0x05, 0x0D, 0x13, 0x2D, 0x41, 0x93};
        for (int kind = 0; kind < 8; kind++) {
            x.keep(0, x.body(kind));
            for (int k = 0; k < 8; k++) due("kind " + kind + " for " + k, x.taken(0, k), (kindsAbove[kind] >> k & 1) != 0 ? kind : -12);
        }
        x.row(1, 0, 1);
        due("a row", x.taken(1, 0), -12);
        due("nothing", x.taken(2, 0), -11);
        allBad("taken", x.taken(0, 8), x.taken(0, -1), x.taken(6, 0), x.taken(-1, 0), x.taken(2, 8));
    }

    private static void count() {
        promise = "46 count";
        NineKeysRound x = yard(1, 2, 3);
        x.feed(1);
        x.feed(2);
        x.mend(0, 2, 4);
        for (int i = 0; i < 5; i++) x.body(0);
        x.act(4, 1, 0);
        int[] want = {3, 2, 1, 5, 2};
        for (int what = 0; what < 5; what++) due("count " + what, x.count(what), want[what]);
        x.undo();
        due("undone", x.count(2), 0);
        allBad("count", x.count(5), x.count(-1));
    }

    /** Every call that takes a round refuses in like order: BAD, then -11, then -12. */
    private static void roundRefusals() {
        promise = "8 to 23, refusals";
        NineKeysRound x = three();
        x.row(2, 1, 3);
        x.keep(3, x.body(0));
        for (int shelf = 1; shelf < 4; shelf++) {
            int want = shelf == 1 ? -11 : -12;
            int[] answers = {
                x.round(shelf, 0), x.first(shelf, 0), x.by(shelf, 0, 0), x.unseen(shelf, 0, 0, 0), x.lost(shelf, 0, 0, 0),
                x.lost(shelf, -1, 0, 0), x.red(shelf, 0), x.gap(shelf, 0), x.late(shelf), x.thief(shelf, 0, 0, 1), x.safe(shelf, 1),
                x.two(shelf, 0, 0), x.two(shelf, -1, 0), x.success(shelf, 0, 0, 1), x.bestMinute(shelf, 0, 1, 0), x.mix(shelf, 0, 1),
            };
            for (int i = 0; i < answers.length; i++) due("refusal " + i, answers[i], want);
            allBad("BAD first", x.round(shelf, 2), x.first(shelf, 9), x.by(shelf, -1, 0), x.unseen(shelf, 0, 0, 2), x.lost(shelf, 0, 1, 0),
                x.red(shelf, 16), x.gap(shelf, 9), x.thief(shelf, 0, 0, 0), x.safe(shelf, 0), x.two(shelf, 0, 100),
                x.success(shelf, 0, 600, 1), x.bestMinute(shelf, 0, 0, 0), x.mix(shelf, 0, 0));
        }
    }
}
