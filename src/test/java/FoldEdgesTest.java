/** FOLDS, promises 13 to 20 and what now() asks of all FOLDS: each sentence that names a boundary case. */
public final class FoldEdgesTest {
    private static final Check CHECK = new Check();
    private static final String LONGEST = "k20;".repeat(9);
    private static final String ALL_STIFF = "x0;x1;x2;x3;x4;x5;x6;x7;";

    public static void main(String[] args) {
        whichAreFolds();
        least();
        most();
        boxNumbers();
        boxes();
        nearestIntoBox();
        endNumbers();
        ends();
        measureNumbers();
        gaps();
        oddsNumbers();
        odds();
        seesNumbers();
        sixAreSeen();
        forgetting();
        waysNumbers();
        filedByNineAtMost();
        seenByAllWays();
        seenAsThingsAreNow();
        tries();
        CHECK.finish();
    }

    private static void whichAreFolds() {
        CHECK.sentence("just those are FOLDS in which STIFF ones are as they are");
        CHECK.due("FOLDS without LINKS", new FoldRule().box(180, 0), 1);
        CHECK.due("FOLDS of one link", Check.told("k20;").box(180, 0), 1);
        CHECK.due("FOLDS of two links", Check.told("k20;k20;").box(180, 0), 2);
        CHECK.due("FOLDS of two links, stiff", Check.told("k20;k20;x0;").box(180, 0), 1);
        CHECK.due("FOLDS of nine", Check.told(LONGEST).box(180, 0), 256);
        CHECK.due("FOLDS of nine, first joint stiff", Check.told(LONGEST + "x0;").box(180, 0), 128);
        CHECK.due("FOLDS of nine, last joint stiff", Check.told(LONGEST + "x7;").box(180, 0), 128);
        CHECK.due("FOLDS of nine, all stiff", Check.told(LONGEST + ALL_STIFF).box(180, 0), 1);
    }

    private static void least() {
        CHECK.sentence("LEAST: the least SPAN of all FOLDS; which (of several the least number)");
        CHECK.due("LEAST without LINKS", new FoldRule().now(3), 0);
        CHECK.due("which without LINKS", new FoldRule().now(4), 0);
        FoldRule several = Check.told("k3;k1;k1;");
        CHECK.due("LEAST by 1 and by 3", several.now(3), 3);
        CHECK.due("which, 1 and 3", several.now(4), 1);
        several.bends(0);
        several.bends(1);
        CHECK.due("which, whatever lies now", several.now(4), 1);
        FoldRule stiff = Check.told(LONGEST + ALL_STIFF);
        CHECK.due("LEAST, all stiff", stiff.now(3), 180);
        CHECK.due("which, all stiff", stiff.now(4), 0);
        FoldRule lastStiff = Check.told("k3;k3;k3;x1;");
        CHECK.due("LEAST, last stiff", lastStiff.now(3), 6);
        CHECK.due("which, last stiff", lastStiff.now(4), 1);
        FoldRule lastFree = Check.told(LONGEST + "x0;x1;x2;x3;x4;x5;x6;");
        CHECK.due("LEAST, last free", lastFree.now(3), 160);
        CHECK.due("which, last free", lastFree.now(4), 128);
    }

    private static void most() {
        CHECK.sentence("MOST: the greatest END of all FOLDS");
        CHECK.due("MOST without LINKS", new FoldRule().now(5), 0);
        CHECK.due("MOST of the shortest", Check.told("k1;").now(5), 1);
        CHECK.due("MOST of the longest", Check.told(LONGEST).now(5), 180);
        CHECK.due("MOST, END is below 0 now", Check.told("k1;k20;f0;").now(5), 21);
        CHECK.due("MOST, all stiff", Check.told(LONGEST + ALL_STIFF).now(5), 180);
    }

    private static void boxNumbers() {
        CHECK.sentence("BOX for n (1 .. 180) .. (what = 0) .. (1; NONE) .. (2; NONE). BAD.");
        FoldRule x = Check.told("k1;k1;");
        int[] atOne = {1, 1, 1};
        int[] atMost = {2, 0, 0};
        for (int what = 0; what <= 2; what++) {
            CHECK.due("box(0, " + what + ")", x.box(0, what), FoldRule.BAD);
            CHECK.due("box(1, " + what + ")", x.box(1, what), atOne[what]);
            CHECK.due("box(180, " + what + ")", x.box(180, what), atMost[what]);
            CHECK.due("box(181, " + what + ")", x.box(181, what), FoldRule.BAD);
            CHECK.due("box(MIN, " + what + ")", x.box(Integer.MIN_VALUE, what), FoldRule.BAD);
            CHECK.due("box(MAX, " + what + ")", x.box(Integer.MAX_VALUE, what), FoldRule.BAD);
        }
        for (int n : new int[] {1, 180}) {
            CHECK.due("box(" + n + ", -1)", x.box(n, -1), FoldRule.BAD);
            CHECK.due("box(" + n + ", 3)", x.box(n, 3), FoldRule.BAD);
            CHECK.due("box(" + n + ", MIN)", x.box(n, Integer.MIN_VALUE), FoldRule.BAD);
            CHECK.due("box(" + n + ", MAX)", x.box(n, Integer.MAX_VALUE), FoldRule.BAD);
        }
    }

    private static void boxed(FoldRule x, int n, int many, int which, int bent) {
        CHECK.due("box(" + n + ", 0)", x.box(n, 0), many);
        CHECK.due("box(" + n + ", 1)", x.box(n, 1), which);
        CHECK.due("box(" + n + ", 2)", x.box(n, 2), bent);
    }

    private static void boxes() {
        CHECK.sentence("how many FOLDS have a SPAN of n at most; .. NONE");
        boxed(new FoldRule(), 1, 1, 0, 0);
        boxed(new FoldRule(), 180, 1, 0, 0);
        boxed(Check.told("k20;"), 19, 0, FoldRule.NONE, FoldRule.NONE);
        boxed(Check.told("k20;"), 20, 1, 0, 0);
        FoldRule stiff = Check.told(LONGEST + ALL_STIFF);
        boxed(stiff, 179, 0, FoldRule.NONE, FoldRule.NONE);
        boxed(stiff, 180, 1, 0, 0);
        FoldRule free = Check.told(LONGEST);
        boxed(free, 19, 0, FoldRule.NONE, FoldRule.NONE);
        boxed(free, 20, 1, 255, 8);
        boxed(free, 179, 255, 1, 1);
        boxed(free, 180, 256, 0, 0);
    }

    private static void nearestIntoBox() {
        CHECK.sentence("by which the fewest JOINTS are BENT from NOW on, of several the least number");
        FoldRule x = Check.told("k2;k2;k2;");
        boxed(x, 4, 3, 1, 1);
        x.bends(1);
        boxed(x, 4, 3, 2, 0);
        boxed(x, 2, 1, 3, 1);
        x.bends(0);
        boxed(x, 2, 1, 3, 0);
        x.bends(1);
        boxed(x, 4, 3, 1, 0);
        FoldRule four = Check.told("k4;k4;k4;k4;");
        boxed(four, 8, 5, 2, 1);
        four.bends(0);
        // 3 and 5 are one joint away from 1.
        boxed(four, 8, 5, 3, 1);
        four.bends(2);
        boxed(four, 4, 1, 7, 1);
    }

    private static void endNumbers() {
        CHECK.sentence("END at n (-180 .. 180) .. NONE. BAD.");
        FoldRule x = Check.told(LONGEST);
        CHECK.due("end(-181)", x.end(-181), FoldRule.BAD);
        CHECK.due("end(-180)", x.end(-180), FoldRule.NONE);
        CHECK.due("end(180)", x.end(180), 0);
        CHECK.due("end(181)", x.end(181), FoldRule.BAD);
        CHECK.due("end(MIN)", x.end(Integer.MIN_VALUE), FoldRule.BAD);
        CHECK.due("end(MAX)", x.end(Integer.MAX_VALUE), FoldRule.BAD);
        CHECK.due("end(-180) without LINKS", new FoldRule().end(-180), FoldRule.NONE);
        CHECK.due("end(0) without LINKS", new FoldRule().end(0), 0);
        CHECK.due("end(-1) without LINKS", new FoldRule().end(-1), FoldRule.NONE);
        CHECK.due("end(1) without LINKS", new FoldRule().end(1), FoldRule.NONE);
    }

    private static void ends() {
        CHECK.sentence("the FOLD by which END is n, with the fewest JOINTS BENT, of several the least number; NONE");
        FoldRule longest = Check.told(LONGEST);
        CHECK.due("end(-140), the lowest", longest.end(-140), 1);
        CHECK.due("end(-160)", longest.end(-160), FoldRule.NONE);
        FoldRule lowest = Check.told("k1;" + "k20;".repeat(8));
        CHECK.due("end(-159)", lowest.end(-159), 1);
        CHECK.due("end(-160), one lower", lowest.end(-160), FoldRule.NONE);
        CHECK.due("end(161)", lowest.end(161), 0);
        CHECK.due("end(162), one higher", lowest.end(162), FoldRule.NONE);
        FoldRule stiff = Check.told("k5;k5;x0;");
        CHECK.due("end(0), stiff", stiff.end(0), FoldRule.NONE);
        CHECK.due("end(10), stiff", stiff.end(10), 0);
        FoldRule several = Check.told("k5;k1;k1;k7;");
        CHECK.due("end(12) by 3 and by 6", several.end(12), 3);
        several.bends(2);
        CHECK.due("end(12), 6 is nearer", several.end(12), 6);
        several.bends(2);
        several.bends(0);
        several.bends(1);
        several.bends(2);
        CHECK.due("end(12), each is one away", several.end(12), 3);
    }

    private static void measureNumbers() {
        CHECK.sentence("MEASURES n (1 .. 180): whether n is between two MARKS of some FOLD (1, 0) .. BAD");
        FoldRule x = Check.told("k1;");
        CHECK.due("measures(0)", x.measures(0), FoldRule.BAD);
        CHECK.due("measures(-1)", x.measures(-1), FoldRule.BAD);
        CHECK.due("measures(1)", x.measures(1), 1);
        CHECK.due("measures(2)", x.measures(2), 0);
        CHECK.due("measures(180)", x.measures(180), 0);
        CHECK.due("measures(181)", x.measures(181), FoldRule.BAD);
        CHECK.due("measures(MIN)", x.measures(Integer.MIN_VALUE), FoldRule.BAD);
        CHECK.due("measures(MAX)", x.measures(Integer.MAX_VALUE), FoldRule.BAD);
        CHECK.due("measures(1) without LINKS", new FoldRule().measures(1), 0);
        CHECK.due("measures(180) without LINKS", new FoldRule().measures(180), 0);
        FoldRule longest = Check.told(LONGEST);
        CHECK.due("measures(180) of the longest", longest.measures(180), 1);
        CHECK.due("measures(179) of the longest", longest.measures(179), 0);
        CHECK.due("measures(1) of the longest", longest.measures(1), 0);
        FoldRule middle = Check.told("k1;k7;k12;x0;x1;");
        int[] measured = {1, 7, 8, 12, 19, 20};
        int at = 0;
        for (int n = 1; n <= 21; n++) {
            boolean isOne = at < measured.length && measured[at] == n;
            CHECK.due("measures(" + n + ") of a stiff one", middle.measures(n), isOne ? 1 : 0);
            at += isOne ? 1 : 0;
        }
    }

    private static void gaps() {
        CHECK.sentence("GAP: the least that is not (181 at most)");
        CHECK.due("GAP without LINKS", new FoldRule().now(6), 1);
        CHECK.due("GAP of 1", Check.told("k1;").now(6), 2);
        CHECK.due("GAP of 2", Check.told("k2;").now(6), 1);
        CHECK.due("GAP of 1, 2", Check.told("k1;k2;").now(6), 4);
        CHECK.due("GAP of 1, 2, stiff", Check.told("k1;k2;x0;").now(6), 4);
        CHECK.due("GAP of 1, 3, stiff", Check.told("k1;k3;x0;").now(6), 2);
        CHECK.due("GAP of 1, 3, free", Check.told("k1;k3;").now(6), 5);
        CHECK.due("GAP of powers of 2", Check.told("k1;k2;k4;k8;k16;").now(6), 32);
        CHECK.due("GAP of the longest", Check.told(LONGEST).now(6), 1);
        FoldRule filed = Check.told("k1;k2;");
        CHECK.due("measures(3) ahead of files()", filed.measures(3), 1);
        filed.files(1, 1);
        CHECK.due("measures(3) behind files()", filed.measures(3), 0);
        CHECK.due("GAP behind files()", filed.now(6), 3);
        FoldRule longest = Check.told(LONGEST);
        CHECK.due("measures(180) ahead of files()", longest.measures(180), 1);
        longest.files(0, 1);
        CHECK.due("measures(180) behind files()", longest.measures(180), 0);
        longest.undo();
        CHECK.due("measures(180) behind undo()", longest.measures(180), 1);
    }

    private static void oddsNumbers() {
        CHECK.sentence("ODDS by x (0 .. 10), n (1 .. 180) .. upper (what = 0), lower number (1) .. BAD");
        FoldRule x = Check.told("k1;k1;");
        fraction(x, 0, 1, 0, 1);
        fraction(x, 10, 1, 1, 1);
        fraction(x, 0, 180, 1, 1);
        fraction(x, 10, 180, 1, 1);
        int[] wild = {Integer.MIN_VALUE, Integer.MAX_VALUE};
        for (int what = 0; what <= 1; what++) {
            CHECK.due("odds(-1, 1, " + what + ")", x.odds(-1, 1, what), FoldRule.BAD);
            CHECK.due("odds(11, 1, " + what + ")", x.odds(11, 1, what), FoldRule.BAD);
            CHECK.due("odds(5, 0, " + what + ")", x.odds(5, 0, what), FoldRule.BAD);
            CHECK.due("odds(5, 181, " + what + ")", x.odds(5, 181, what), FoldRule.BAD);
            for (int far : wild) {
                CHECK.due("odds(" + far + ", 1, " + what + ")", x.odds(far, 1, what), FoldRule.BAD);
                CHECK.due("odds(5, " + far + ", " + what + ")", x.odds(5, far, what), FoldRule.BAD);
            }
        }
        CHECK.due("odds(5, 1, -1)", x.odds(5, 1, -1), FoldRule.BAD);
        CHECK.due("odds(5, 1, 2)", x.odds(5, 1, 2), FoldRule.BAD);
        CHECK.due("odds(5, 1, MIN)", x.odds(5, 1, Integer.MIN_VALUE), FoldRule.BAD);
        CHECK.due("odds(5, 1, MAX)", x.odds(5, 1, Integer.MAX_VALUE), FoldRule.BAD);
    }

    private static void fraction(FoldRule x, int of, int n, int upper, int lower) {
        CHECK.due("odds(" + of + ", " + n + ", 0)", x.odds(of, n, 0), upper);
        CHECK.due("odds(" + of + ", " + n + ", 1)", x.odds(of, n, 1), lower);
    }

    private static void odds() {
        CHECK.sentence("each FREE JOINT is FOLDED by x of 10 .. that SPAN is n at most .. in least terms");
        FoldRule two = Check.told("k1;k1;");
        int[] uppers = {0, 1, 1, 3, 2, 1, 3, 7, 4, 9, 1};
        int[] lowers = {1, 10, 5, 10, 5, 2, 5, 10, 5, 10, 1};
        for (int x = 0; x <= 10; x++) {
            fraction(two, x, 1, uppers[x], lowers[x]);
            fraction(two, x, 2, 1, 1);
        }
        fraction(new FoldRule(), 0, 1, 1, 1);
        fraction(new FoldRule(), 10, 180, 1, 1);
        fraction(Check.told("k20;"), 5, 19, 0, 1);
        fraction(Check.told("k20;"), 5, 20, 1, 1);
        FoldRule stiff = Check.told(LONGEST + ALL_STIFF);
        fraction(stiff, 5, 179, 0, 1);
        fraction(stiff, 5, 180, 1, 1);
        FoldRule longest = Check.told(LONGEST);
        fraction(longest, 1, 20, 1, 100000000);
        fraction(longest, 9, 20, 43046721, 100000000);
        fraction(longest, 1, 179, 56953279, 100000000);
        fraction(longest, 5, 20, 1, 256);
        fraction(longest, 0, 179, 0, 1);
        fraction(longest, 10, 19, 0, 1);
        fraction(Check.told("k1;k1;k1;x1;"), 3, 2, 3, 10);
        // How it lies now is no matter.
        fraction(Check.told("k1;k1;f0;"), 3, 1, 3, 10);
    }

    private static void seesNumbers() {
        CHECK.sentence("behind a FOLD an unknown SPAN (0 .. 180) was seen .. BAD (no such FOLD, too)");
        FoldRule none = new FoldRule();
        CHECK.due("sees(1, 0) without LINKS", none.sees(1, 0), FoldRule.BAD);
        CHECK.due("sees(-1, 0) without LINKS", none.sees(-1, 0), FoldRule.BAD);
        CHECK.due("sees(0, 0) without LINKS", none.sees(0, 0), 1);
        FoldRule one = Check.told("k5;");
        CHECK.due("sees(1, 0) of one", one.sees(1, 0), FoldRule.BAD);
        CHECK.due("sees(0, 0) of one", one.sees(0, 0), 1);
        FoldRule x = Check.told(LONGEST);
        CHECK.due("sees(-1, 20)", x.sees(-1, 20), FoldRule.BAD);
        CHECK.due("sees(256, 20)", x.sees(256, 20), FoldRule.BAD);
        CHECK.due("sees(MIN, 20)", x.sees(Integer.MIN_VALUE, 20), FoldRule.BAD);
        CHECK.due("sees(MAX, 20)", x.sees(Integer.MAX_VALUE, 20), FoldRule.BAD);
        CHECK.due("sees(0, -1)", x.sees(0, -1), FoldRule.BAD);
        CHECK.due("sees(0, 181)", x.sees(0, 181), FoldRule.BAD);
        CHECK.due("sees(0, MIN)", x.sees(0, Integer.MIN_VALUE), FoldRule.BAD);
        CHECK.due("sees(0, MAX)", x.sees(0, Integer.MAX_VALUE), FoldRule.BAD);
        CHECK.due("count(2) behind refused ones", x.count(2), 0);
        CHECK.due("sees(0, 0)", x.sees(0, 0), 1);
        CHECK.due("sees(255, 180)", x.sees(255, 180), 2);
        FoldRule stiff = Check.told("k5;k5;k5;x1;");
        CHECK.due("sees(1, 5), the stiff one open", stiff.sees(1, 5), 1);
        CHECK.due("sees(2, 5), the stiff one folded", stiff.sees(2, 5), FoldRule.BAD);
        CHECK.due("sees(3, 5), the stiff one folded", stiff.sees(3, 5), FoldRule.BAD);
        stiff.turned();
        CHECK.due("sees(1, 5), turned", stiff.sees(1, 5), FoldRule.BAD);
        CHECK.due("sees(2, 5), turned", stiff.sees(2, 5), 2);
    }

    private static void sixAreSeen() {
        CHECK.sentence("SEEN (6 at most) .. FULL");
        FoldRule x = Check.told("k5;k3;x0;");
        for (int i = 1; i <= 6; i++) {
            CHECK.due("sees(0, 7), the " + i + "th", x.sees(0, 7), i);
        }
        CHECK.due("sees(0, 6), the 7th", x.sees(0, 6), FoldRule.FULL);
        CHECK.due("sees(1, 7), BAD ahead of FULL", x.sees(1, 7), FoldRule.BAD);
        CHECK.due("sees(0, 181), BAD ahead of FULL", x.sees(0, 181), FoldRule.BAD);
        CHECK.due("count(2)", x.count(2), 6);
        CHECK.due("ways(0), the 7th is not SEEN", x.ways(0), 2);
        FoldRule last = Check.told("k5;");
        for (int i = 1; i <= 5; i++) {
            last.sees(0, 4);
        }
        CHECK.due("ways(0) by five", last.ways(0), 1);
        last.sees(0, 3);
        CHECK.due("ways(0), the 6th is SEEN", last.ways(0), 0);
    }

    private static void forgetting() {
        CHECK.sentence("Nothing is SEEN: how much was.");
        FoldRule x = Check.told("k5;");
        CHECK.due("forget() of none", x.forget(), 0);
        x.sees(0, 180);
        CHECK.due("ways(0) by one", x.ways(0), 0);
        CHECK.due("forget() of one", x.forget(), 1);
        CHECK.due("ways(0) by none", x.ways(0), 4);
        for (int i = 1; i <= 6; i++) {
            x.sees(0, 180);
        }
        CHECK.due("forget() of six", x.forget(), 6);
        CHECK.due("count(2)", x.count(2), 0);
        CHECK.due("sees(0, 4) behind it", x.sees(0, 4), 1);
        CHECK.due("ways(0) behind it", x.ways(0), 1);
        CHECK.due("forget() without LINKS", new FoldRule().forget(), 0);
    }

    private static void waysNumbers() {
        CHECK.sentence("WAYS: how many (what = 0), the first (1; NONE). BAD.");
        FoldRule x = Check.told("k5;");
        CHECK.due("ways(-1)", x.ways(-1), FoldRule.BAD);
        CHECK.due("ways(0)", x.ways(0), 4);
        CHECK.due("ways(1)", x.ways(1), 1);
        CHECK.due("ways(2)", x.ways(2), FoldRule.BAD);
        CHECK.due("ways(MIN)", x.ways(Integer.MIN_VALUE), FoldRule.BAD);
        CHECK.due("ways(MAX)", x.ways(Integer.MAX_VALUE), FoldRule.BAD);
    }

    private static void filedByNineAtMost() {
        CHECK.sentence("one unknown LINK was k less LONG (1 .. 9; 1 left at least)");
        CHECK.due("ways(0) without LINKS", new FoldRule().ways(0), 0);
        CHECK.due("ways(1) without LINKS", new FoldRule().ways(1), FoldRule.NONE);
        for (int length = 1; length <= 20; length++) {
            FoldRule x = Check.told("k" + length + ";");
            CHECK.due("ways(0) of " + length, x.ways(0), Math.min(length - 1, 9));
            CHECK.due("ways(1) of " + length, x.ways(1), length == 1 ? FoldRule.NONE : 1);
        }
        CHECK.due("ways(0) of nine times 1", Check.told("k1;".repeat(9)).ways(0), 0);
        CHECK.due("ways(1) of nine times 1", Check.told("k1;".repeat(9)).ways(1), FoldRule.NONE);
        CHECK.due("ways(0) of the longest", Check.told(LONGEST).ways(0), 81);
        FoldRule last = Check.told("k1;".repeat(8) + "k20;");
        CHECK.due("ways(1) of the last link", last.ways(1), 81);
        last.sees(0, 19);
        CHECK.due("ways(1), asked ahead of ways(0)", last.ways(1), 89);
        CHECK.due("ways(0) of the last link by 9", last.ways(0), 1);
        CHECK.due("ways(1) of the last link by 9", last.ways(1), 89);
        FoldRule ten = Check.told("k20;");
        ten.sees(0, 10);
        CHECK.due("ways(0) by 10", ten.ways(0), 0);
        CHECK.due("ways(1) by 10", ten.ways(1), FoldRule.NONE);
        FoldRule unfiled = Check.told("k20;k20;");
        unfiled.sees(0, 40);
        CHECK.due("ways(0) by 0", unfiled.ways(0), 0);
    }

    private static void seenByAllWays() {
        CHECK.sentence("twos of LINK and k by which all that was SEEN is so: how many; the first (10 times LINK and k)");
        FoldRule x = Check.told("k2;k3;");
        CHECK.due("ways(0)", x.ways(0), 3);
        CHECK.due("ways(1)", x.ways(1), 1);
        x.sees(0, 4);
        CHECK.due("ways(0), SPAN 4", x.ways(0), 2);
        CHECK.due("ways(1), SPAN 4", x.ways(1), 1);
        x.sees(1, 2);
        CHECK.due("ways(0), SPAN 2 folded", x.ways(0), 1);
        CHECK.due("ways(1), SPAN 2 folded", x.ways(1), 11);
        x.sees(1, 3);
        CHECK.due("ways(0), two that can't be", x.ways(0), 0);
        CHECK.due("ways(1), two that can't be", x.ways(1), FoldRule.NONE);
    }

    private static void seenAsThingsAreNow() {
        CHECK.sentence("As things are NOW");
        FoldRule x = Check.told("k2;k3;");
        x.sees(0, 4);
        x.files(1, 1);
        CHECK.due("ways(0), one filed", x.ways(0), 0);
        x.files(1, 1);
        CHECK.due("ways(0), no way leaves 4", x.ways(0), 0);
        x.undo();
        x.undo();
        CHECK.due("ways(0), undone", x.ways(0), 2);
        x.turned();
        CHECK.due("ways(1), turned", x.ways(1), 1);
        CHECK.due("ways(0), turned", x.ways(0), 2);
        CHECK.due("count(2)", x.count(2), 1);
    }

    private static void tries() {
        CHECK.sentence("TRY: .. of several the least number; NONE (one can be at most)");
        CHECK.due("next() without LINKS", new FoldRule().next(), FoldRule.NONE);
        CHECK.due("next() of no way", Check.told("k1;").next(), FoldRule.NONE);
        CHECK.due("next() of one way", Check.told("k2;").next(), FoldRule.NONE);
        CHECK.due("next() of two ways", Check.told("k3;").next(), 0);
        CHECK.due("next() of two ways that no FOLD tells apart", Check.told("k2;k2;x0;").next(), 0);
        CHECK.due("next(), both FOLDS are as good", Check.told("k2;k2;").next(), 0);
        FoldRule x = Check.told("k2;k3;");
        CHECK.due("next(), both FOLDS are as good", x.next(), 0);
        x.sees(0, 4);
        CHECK.due("next(), seen open", x.next(), 1);
        x.sees(1, 2);
        CHECK.due("next(), one is left", x.next(), FoldRule.NONE);
        x.sees(1, 3);
        CHECK.due("next(), none is left", x.next(), FoldRule.NONE);
        CHECK.due("next() of the last two links", Check.told("k1;k1;k2;k2;").next(), 4);
        FoldRule five = Check.told("k5;k3;k7;k2;k6;f1;x3;");
        CHECK.due("next() of five links", five.next(), 1);
        five.sees(2, 12);
        CHECK.due("next() of five links, seen 12", five.next(), 4);
        CHECK.due("next() of the longest", Check.told(LONGEST).next(), 126);
        CHECK.due("next() of the longest, all stiff", Check.told(LONGEST + ALL_STIFF).next(), 0);
    }
}
