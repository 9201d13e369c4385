/** Edges of part 1 of the terms: the tape, the law's text, what it gives. */
final class EdgesOfLaw extends Edges {
    private static final String LEAST_INT = "2048*1024*1024";

    private EdgesOfLaw() {
    }

    static void run() {
        tape();
        lines();
        terms();
        operands();
        open();
        working();
        faults();
        worth();
    }

    /** What the text gives at a post that is never seen, in minute 0; VALUE 3, DUE 25, number 1, a round of one. */
    private static void gives(String text, int want) {
        NineKeysRound x = yard(0, 1);
        x.mend(1, 2, 3);
        x.mend(1, 3, 25);
        fill(x, 0, 0, 0);
        due("reads " + text, law(x, text), 1);
        due(text, x.lost(0, 1, 0, 0), want);
    }

    private static void reads(String text) {
        due(text, law(new NineKeysRound(), text), 1);
    }

    private static void fault(String text, int place) {
        due(text, law(new NineKeysRound(), text), -100 - place);
    }

    private static void tape() {
        edge("part 1", "at most 120 bytes", () -> {
            NineKeysRound x = yard(0);
            fill(x, 0, 0);
            String text = "10" + "+1".repeat(59);
            for (int i = 0; i < 120; i++) due("feed", x.feed(text.charAt(i)), i + 1);
            due("one more", x.feed('+'), FULL);
            due("all of them", x.law(), 1);
            due("what they give", x.lost(0, 0, 0, 0), 69);
            due("room again", x.feed('1'), 1);
        });
        edge("part 1", "LINES, one or more, parted by ;", () -> {
            fault("", 0);
            fault(";", 0);
            fault("1;", 2);
            fault("1;;1", 2);
            fault("1?2;", 4);
            reads("1;2");
            reads("1;".repeat(59) + "1");
            gives("0?1;".repeat(29) + "0?1", 0);
            gives("0?1;".repeat(29) + "7", 7);
        });
    }

    private static void lines() {
        edge("part 1", "E, or E ? E (what counts if the first is not 0)", () -> {
            gives("1?2", 2);
            gives("-1?2", 2);
            gives("0?2", 0);
            fault("?1", 0);
            fault("1?", 2);
            gives("1?0|2", 1);
            gives("0|2?7", 7);
            gives("1?((((((7))))))", 7);
            fault("1?(((((((7", 8);
            fault("1??1", 2);
            fault("1?2?3", 3);
            fault("(1?2)", 2);
        });
        edge("part 1", "The first LINE without a first E, or whose first E is not 0, counts; none: 0", () -> {
            gives("0?1;0?2", 0);
            gives("0?1;3;4", 3);
            gives("0?1;2?3;4", 3);
            gives("0;5", 0);
            gives("1?0;5", 0);
            linesOfEveryLength();
        });
    }

    /** The line that counts, and the one that does not, in all lengths: where the next one begins must not matter. */
    private static void linesOfEveryLength() {
        for (int n = 0; n < 50; n++) {
            String zeros = "0+".repeat(n);
            gives("1?" + zeros + "1;9", 1);
            gives("1?" + zeros + "!0;9", 1);
            gives("1?" + zeros + "!!1;9", 1);
            gives("0?" + zeros + "1;9", 9);
        }
    }

    private static void terms() {
        edge("part 1", "E = A { | A }", () -> {
            gives("0|0|3", 1);
            gives("(0|3)*7", 7);
            gives("-(0|3)+8", 7);
            gives("0|0", 0);
            fault("1|", 2);
            fault("|1", 0);
            fault("1||1", 2);
        });
        edge("part 1", "A = B { & B }", () -> {
            gives("1&2&3", 1);
            gives("1&2&0", 0);
            gives("1|0&0", 1);
            fault("1&", 2);
            fault("&1", 0);
            fault("1&|1", 2);
        });
        edge("part 1", "B = S, or S < S, S = S, S > S", () -> {
            gives("1<2&2>1&1=1", 1);
            gives("(1<2)<2", 1);
            fault("1<2<3", 3);
            fault("1=1=1", 3);
            fault("1>1<1", 3);
            fault("1<=1", 2);
            fault("1<", 2);
            fault("<1", 0);
        });
        edge("part 1", "S = P { + P, - P }", () -> {
            gives("9-3-2", 4);
            gives("9-3+2", 8);
            gives("1+1<3", 1);
            fault("1+", 2);
            fault("+1", 0);
            fault("1-+1", 2);
        });
        edge("part 1", "P = O { * O, / O, % O }", () -> {
            gives("40/4/2", 5);
            gives("2+3*4", 14);
            gives("20%7%4", 2);
            fault("1*", 2);
            fault("*1", 0);
            fault("1/%1", 2);
        });
    }

    private static void operands() {
        edge("part 1", "a number (1 to 4 digits)", () -> {
            gives("9", 9);
            gives("9999-9998", 1);
            gives("0007", 7);
            gives("0000", 0);
            fault("12345", 4);
            fault("00000", 4);
            fault("1?12345", 6);
            fault("1.5", 1);
        });
        edge("part 1", "No blanks", () -> {
            fault(" 1", 0);
            fault("1 ", 1);
            fault("1 +1", 1);
            fault("1+ 1", 2);
            fault("1\n", 1);
            fault("\t1", 0);
        });
        edge("part 1", "NAMES: v VALUE, u for how many minutes a POST is UNSEEN, m the minute, d DUE, p the POST, n how many POSTS the ROUND has", () -> {
            gives("v*10+p", 31);
            gives("d*n", 25);
            gives("u*10+m", 10);
            fault("V", 0);
            fault("w", 0);
            fault("vu", 1);
            fault("2v", 1);
            fault("v2", 1);
            namesAtTheirEnds();
        });
    }

    private static void namesAtTheirEnds() {
        NineKeysRound x = yard(0, 0, 0, 0, 0, 0, 0, 0, 5);
        x.mend(8, 2, 9);
        x.mend(8, 3, 999);
        x.row(0, 0, 60);
        law(x, "v=9&d=999&p=8&n=20&u=1000&m=999?88;1");
        due("the greatest of all", x.lost(0, 8, 999, 999), 88);
        x.mend(8, 2, 0);
        x.mend(8, 3, 1);
        fill(x, 0, 0);
        law(x, "v=0&d=1&p=8&n=0&u=1&m=0?77;1");
        due("the least of all", x.lost(0, 8, 0, 0), 77);
    }

    private static void open() {
        edge("part 1", "At most 6 of ( ! - ahead of an O are open at once", () -> {
            gives("((((((7))))))", 7);
            fault("(((((((7)))))))", 6);
            gives("!!!!!!7", 1);
            fault("!!!!!!!7", 6);
            gives("------7", 7);
            fault("-------7", 6);
            gives("(--(--7))", 7);
            fault("(--(--(7", 6);
            fault("(--(--!7", 6);
            fault("(--(---7", 6);
            gives("(1)+((((((7))))))", 8);
            gives("------3+------4", 7);
            gives("(-----3+-----4)+9", 2);
            fault("(------3", 6);
            gives("9-------3", 6);
            fault("9--------3", 8);
        });
    }

    private static void working() {
        edge("part 1", "Ints that wrap", () -> {
            gives("(9999*9999*30<0)*5", 5);
            gives("(9999*9999*21>0)*5", 5);
            gives("(9999*9999*21+9999*9999<0)*7", 7);
            gives("(" + LEAST_INT + "-1>0)*4", 4);
            gives("(-(" + LEAST_INT + ")<0)*3", 3);
        });
        edge("part 1", "/ and % toward 0, by 0 they give 0", () -> {
            gives("10+-7/2", 7);
            gives("10+7/-2", 7);
            gives("10+-7/-2", 13);
            gives("10+-7%2", 9);
            gives("10+7%-2", 11);
            gives("9+7/0", 9);
            gives("9+7%0", 9);
            gives("9+0/0", 9);
            gives("(" + LEAST_INT + "/-1<0)*6", 6);
            gives("9+" + LEAST_INT + "%-1", 9);
        });
        edge("part 1", "| & < = > ! give 1, 0; all is worked out", () -> {
            gives("5|0", 1);
            gives("0|0", 0);
            gives("5&6", 1);
            gives("5&0", 0);
            gives("3<4", 1);
            gives("4<4", 0);
            gives("4=4", 1);
            gives("4=5", 0);
            gives("5>4", 1);
            gives("4>4", 0);
            gives("!0", 1);
            gives("!7", 0);
            gives("!-1", 0);
            gives("1|1/0", 1);
            gives("0&1%0", 0);
        });
    }

    private static void faults() {
        edge("part 1", "the place (from 0) of the first byte with which no TEXT goes on", () -> {
            fault("x", 0);
            fault("" + (char) 0, 0);
            fault("" + (char) 255, 0);
            fault("1" + (char) 128, 1);
            fault("1)", 1);
            fault("()", 1);
            fault("1(", 1);
            fault("1!", 1);
            fault("(1;2", 2);
            fault("1+*1)", 2);
            fault("1;2;x;y", 4);
            fault("1+".repeat(59) + "1x", 119);
        });
        edge("part 1", "the length, if it ends too early", () -> {
            fault("", 0);
            fault("(", 1);
            fault("!", 1);
            fault("-", 1);
            fault("(1", 2);
            fault("1<", 2);
            fault("0?1;", 4);
            fault("((((((1)))))", 12);
            fault("1+".repeat(60), 120);
        });
    }

    private static void worth() {
        edge("part 1", "held within 0 .. 99", () -> {
            gives("-1", 0);
            gives("0", 0);
            gives("1", 1);
            gives("99", 99);
            gives("100", 99);
            gives("9999", 99);
            gives(LEAST_INT, 0);
        });
        edge("part 1", "in a minute in which it is not SEEN", () -> {
            NineKeysRound x = three();
            law(x, "50");
            due("ahead of it", x.lost(0, 0, 1, 1), 50);
            due("while it is SEEN", x.lost(0, 0, 2, 2), 0);
            due("behind it", x.lost(0, 0, 3, 3), 50);
        });
        edge("part 1", "Without a text: v times u by 10 (cut)", () -> {
            NineKeysRound x = yard(0);
            fill(x, 0, 0);
            due("1 by 10", x.lost(0, 0, 0, 0), 0);
            due("9 by 10", x.lost(0, 0, 8, 8), 0);
            due("10 by 10", x.lost(0, 0, 9, 9), 1);
            due("19 by 10", x.lost(0, 0, 18, 18), 1);
            x.mend(0, 2, 9);
            due("18 by 10", x.lost(0, 0, 1, 1), 1);
            due("981 by 10", x.lost(0, 0, 108, 108), 98);
            due("990 by 10", x.lost(0, 0, 109, 109), 99);
            due("held, too", x.lost(0, 0, 999, 999), 99);
            x.mend(0, 2, 0);
            due("0 by 10", x.lost(0, 0, 0, 999), 0);
        });
    }
}
