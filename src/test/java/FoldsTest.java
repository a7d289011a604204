/** Promises 13 to 20: folds, and which link was filed. */
public final class FoldsTest {
    private static final Check CHECK = new Check();

    public static void main(String[] args) {
        boxes();
        ends();
        measuring();
        odds();
        seeing();
        ways();
        tries();
        CHECK.finish();
    }

    private static void boxes() {
        FoldRule x = Check.told("k5;k3;k7;k2;k6;f1;x3;");
        CHECK.due("box(8, 0)", x.box(8, 0), 0);
        CHECK.due("box(8, 1)", x.box(8, 1), FoldRule.NONE);
        CHECK.due("box(8, 2)", x.box(8, 2), FoldRule.NONE);
        CHECK.due("box(9, 0)", x.box(9, 0), 2);
        CHECK.due("box(9, 1)", x.box(9, 1), 6);
        CHECK.due("box(9, 2)", x.box(9, 2), 1);
        CHECK.due("box(180, 0)", x.box(180, 0), 8);
        CHECK.due("box(180, 1)", x.box(180, 1), 2);
        CHECK.due("box(180, 2)", x.box(180, 2), 0);
        FoldRule equal = Check.told("k2;k2;k2;");
        CHECK.due("of several the least number", equal.box(4, 1), 1);
        equal.bends(1);
        CHECK.due("the one that lies", equal.box(4, 1), 2);
        CHECK.due("no joint is bent", equal.box(4, 2), 0);
        CHECK.due("box(0, 0)", x.box(0, 0), FoldRule.BAD);
        CHECK.due("box(181, 1)", x.box(181, 1), FoldRule.BAD);
        CHECK.due("box(-5, 2)", x.box(-5, 2), FoldRule.BAD);
        CHECK.due("box(1, 3)", x.box(1, 3), FoldRule.BAD);
        CHECK.due("box(1, -1)", x.box(1, -1), FoldRule.BAD);
        CHECK.due("box(1, 0) of nothing", new FoldRule().box(1, 0), 1);
    }

    private static void ends() {
        FoldRule x = Check.told("k5;k3;k7;k2;k6;f1;x3;");
        CHECK.due("end(23)", x.end(23), 0);
        CHECK.due("end(1)", x.end(1), 7);
        CHECK.due("end(-7)", x.end(-7), 2);
        CHECK.due("end(0)", x.end(0), FoldRule.NONE);
        CHECK.due("end(180)", x.end(180), FoldRule.NONE);
        CHECK.due("end(-180)", x.end(-180), FoldRule.NONE);
        CHECK.due("end(181)", x.end(181), FoldRule.BAD);
        CHECK.due("end(-181)", x.end(-181), FoldRule.BAD);
        FoldRule several = Check.told("k5;k1;k1;k7;");
        // One of the two short links goes down: joints 0 and 1, or joints 1 and 2.
        CHECK.due("of several the least number", several.end(12), 3);
        several.bends(2);
        CHECK.due("fewest joints from now on", several.end(12), 6);
        several.bends(2);
        CHECK.due("fewest joints", several.end(0), 4);
        CHECK.due("end(0) of nothing", new FoldRule().end(0), 0);
    }

    private static void measuring() {
        FoldRule x = Check.told("k5;k3;x0;");
        int[] yes = {3, 5, 8};
        int[] no = {1, 2, 4, 6, 7, 9, 180};
        for (int n : yes) {
            CHECK.due("measures(" + n + ")", x.measures(n), 1);
        }
        for (int n : no) {
            CHECK.due("measures(" + n + ")", x.measures(n), 0);
        }
        FoldRule free = Check.told("k5;k3;");
        CHECK.due("measures(2) of a free joint", free.measures(2), 1);
        CHECK.due("measures(0)", x.measures(0), FoldRule.BAD);
        CHECK.due("measures(181)", x.measures(181), FoldRule.BAD);
        CHECK.due("measures(-3)", x.measures(-3), FoldRule.BAD);
        FoldRule longest = Check.told("k20;".repeat(9));
        CHECK.due("measures(180) of the longest", longest.measures(180), 1);
        longest.files(8, 1);
        CHECK.due("measures(180), one filed", longest.measures(180), 0);
        CHECK.due("measures(1), one filed", longest.measures(1), 1);
        CHECK.due("measures(179), one filed", longest.measures(179), 1);
        FoldRule dense = Check.told("k1;k2;");
        CHECK.due("GAP of 1, 2, 3", dense.now(6), 4);
    }

    private static void fraction(FoldRule x, int of, int n, int upper, int lower) {
        CHECK.due("odds(" + of + ", " + n + ", 0)", x.odds(of, n, 0), upper);
        CHECK.due("odds(" + of + ", " + n + ", 1)", x.odds(of, n, 1), lower);
    }

    private static void odds() {
        FoldRule x = Check.told("k5;k3;k7;k2;k6;f1;x3;");
        fraction(x, 5, 9, 1, 4);
        fraction(x, 3, 12, 153, 1000);
        fraction(x, 0, 10, 0, 1);
        fraction(x, 0, 23, 1, 1);
        fraction(x, 10, 8, 0, 1);
        fraction(x, 10, 9, 1, 1);
        FoldRule nine = Check.told("k20;".repeat(9));
        fraction(nine, 10, 20, 1, 1);
        fraction(nine, 9, 20, 43046721, 100000000);
        fraction(nine, 1, 20, 1, 100000000);
        fraction(nine, 1, 179, 56953279, 100000000);
        fraction(Check.told("k4;k4;x0;"), 5, 7, 0, 1);
        fraction(new FoldRule(), 5, 1, 1, 1);
        CHECK.due("odds(11, 1, 0)", x.odds(11, 1, 0), FoldRule.BAD);
        CHECK.due("odds(-1, 1, 0)", x.odds(-1, 1, 0), FoldRule.BAD);
        CHECK.due("odds(0, 0, 0)", x.odds(0, 0, 0), FoldRule.BAD);
        CHECK.due("odds(0, 181, 0)", x.odds(0, 181, 0), FoldRule.BAD);
        CHECK.due("odds(0, 1, 2)", x.odds(0, 1, 2), FoldRule.BAD);
        CHECK.due("odds(0, 1, -1)", x.odds(0, 1, -1), FoldRule.BAD);
    }

    private static void seeing() {
        FoldRule x = Check.told("k5;k3;k7;x1;");
        CHECK.due("sees(2, 9), stiff", x.sees(2, 9), FoldRule.BAD);
        CHECK.due("sees(4, 9)", x.sees(4, 9), FoldRule.BAD);
        CHECK.due("sees(-1, 9)", x.sees(-1, 9), FoldRule.BAD);
        CHECK.due("sees(0, -1)", x.sees(0, -1), FoldRule.BAD);
        CHECK.due("sees(0, 181)", x.sees(0, 181), FoldRule.BAD);
        CHECK.due("sees(0, 0)", x.sees(0, 0), 1);
        CHECK.due("sees(1, 180)", x.sees(1, 180), 2);
        for (int i = 3; i <= 6; i++) {
            CHECK.due("sees, the " + i + "th", x.sees(0, 9), i);
        }
        CHECK.due("sees, the 7th", x.sees(0, 9), FoldRule.FULL);
        CHECK.due("sees, the 7th, BAD", x.sees(2, 9), FoldRule.BAD);
        CHECK.due("forget()", x.forget(), 6);
        CHECK.due("forget() again", x.forget(), 0);
        CHECK.due("count(2)", x.count(2), 0);
        CHECK.due("sees(0, 9) again", x.sees(0, 9), 1);
        CHECK.due("sees(1, 0) of nothing", new FoldRule().sees(1, 0), FoldRule.BAD);
    }

    private static void ways() {
        FoldRule x = Check.told("k5;k3;k7;k2;k6;f1;x3;");
        CHECK.due("ways(0)", x.ways(0), 18);
        CHECK.due("ways(1)", x.ways(1), 1);
        x.sees(0, 20);
        CHECK.due("ways(0), seen 20", x.ways(0), 3);
        CHECK.due("ways(1), seen 20", x.ways(1), 3);
        x.sees(7, 8);
        CHECK.due("ways(0), seen 8", x.ways(0), 2);
        x.sees(0, 180);
        CHECK.due("ways(0), seen 180", x.ways(0), 0);
        CHECK.due("ways(1), seen 180", x.ways(1), FoldRule.NONE);
        CHECK.due("ways(2)", x.ways(2), FoldRule.BAD);
        CHECK.due("ways(-1)", x.ways(-1), FoldRule.BAD);
        CHECK.due("ways(0) of LONG 1", Check.told("k1;k1;").ways(0), 0);
        CHECK.due("ways(0) of LONG 20", Check.told("k20;").ways(0), 9);
        FoldRule last = Check.told("k1;k1;k2;");
        CHECK.due("ways(1) of the last link", last.ways(1), 21);
    }

    private static void tries() {
        CHECK.due("next() of nothing", new FoldRule().next(), FoldRule.NONE);
        CHECK.due("next() of one way", Check.told("k2;").next(), FoldRule.NONE);
        CHECK.due("next() of two ways", Check.told("k3;").next(), 0);
        FoldRule x = Check.told("k5;k3;k7;k2;k6;f1;x3;");
        CHECK.due("next()", x.next(), 1);
        x.sees(2, 12);
        CHECK.due("next(), seen 12", x.next(), 4);
        FoldRule stiff = Check.told("k2;k2;x0;");
        CHECK.due("next() without other folds", stiff.next(), 0);
    }
}
