import java.util.Arrays;

/** What the tests share: yards to begin with, and answers held against those that are due. */
abstract class Checks {
    static final int BAD = -1, NOT = -2, FULL = -3, STATE = -5;
    static final int TOO_GREAT = Integer.MAX_VALUE, TOO_SMALL = Integer.MIN_VALUE;
    static String promise = "";
    static int looks;
    private static int wrong;

    static void due(String what, long got, long want) {
        looks++;
        if (got != want) fail(what + " answered " + got + ", due is " + want);
    }

    static void fail(String what) {
        wrong++;
        System.out.println(promise + ": " + what);
    }

    static void allDue(String what, long want, long... answers) {
        for (int i = 0; i < answers.length; i++) due(what + ", number " + i, answers[i], want);
    }

    static void allBad(String what, int... answers) {
        for (int i = 0; i < answers.length; i++) due(what + ", wrong input " + i, answers[i], BAD);
    }

    static void end(String allIsWell) {
        System.out.println(wrong == 0 ? allIsWell : wrong + " answers are not as due");
        if (wrong != 0) System.exit(1);
    }

    /** A yard with posts at the cells told as 100 Y and X. */
    static NineKeysRound yard(int... cells) {
        NineKeysRound x = new NineKeysRound();
        for (int xy : cells) x.post(xy);
        return x;
    }

    /** As yard(), with PACE and STAND. */
    static NineKeysRound paced(int pace, int stand, int... cells) {
        NineKeysRound x = yard(cells);
        x.mend(0, 6, pace);
        x.mend(0, 7, stand);
        return x;
    }

    static void gate(NineKeysRound x, int gateX, int gateY) {
        x.mend(0, 4, gateX);
        x.mend(0, 5, gateY);
    }

    static void fill(NineKeysRound x, int shelf, int sort, int... elements) {
        x.row(shelf, sort, elements.length);
        for (int i = 0; i < elements.length; i++) x.put(shelf, i, elements[i]);
    }

    /** Posts 0, 1, 2 at X 2, 5, 5 and Y 0, 0, 4; on shelf 0 the round 0, 1, 2: dents at 2, 6, 11, 19, 23, 28, .. */
    static NineKeysRound three() {
        NineKeysRound x = yard(2, 5, 405);
        fill(x, 0, 0, 0, 1, 2);
        return x;
    }

    static int law(NineKeysRound x, String text) {
        for (int i = 0; i < text.length(); i++) x.feed(text.charAt(i));
        return x.law();
    }

    /** All four answers of paper() for a paper of these elements. */
    static void paperDue(NineKeysRound x, int possible, int slept, int where, int forged, int... elements) {
        fill(x, 3, 1, elements);
        String row = Arrays.toString(elements);
        due("POSSIBLE " + row, x.paper(3, 0), possible);
        due("SLEPT " + row, x.paper(3, 1), slept);
        due("where most " + row, x.paper(3, 2), where);
        due("FORGED " + row, x.paper(3, 3), forged);
    }

    static void waitTill(NineKeysRound x, int now) {
        while (x.led(4) < now) x.waits(Math.min(999, now - x.led(4)));
    }
}
