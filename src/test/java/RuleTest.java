/** Promises 1 to 8: the object, its text, and the rule as it lies. */
public final class RuleTest {
    private static final Check CHECK = new Check();

    public static void main(String[] args) {
        newObject();
        typing();
        clearing();
        soundTexts();
        faults();
        readAnew();
        links();
        joints();
        marks();
        asItIsNow();
        CHECK.finish();
    }

    private static void newObject() {
        FoldRule x = new FoldRule();
        for (int what = 0; what < 4; what++) {
            CHECK.due("new: count(" + what + ")", x.count(what), 0);
        }
        CHECK.due("new: now(0)", x.now(0), 0);
        CHECK.due("new: now(6)", x.now(6), 1);
        CHECK.due("new: now(7)", x.now(7), 0);
        CHECK.due("new: trace()", x.trace(), 0);
        CHECK.due("new: mark(0)", x.mark(0), 0);
        CHECK.due("new: mark(1)", x.mark(1), FoldRule.NO);
        CHECK.due("new: link(0, 0)", x.link(0, 0), FoldRule.BAD);
        CHECK.due("new: joint(0, 0)", x.joint(0, 0), FoldRule.BAD);
        CHECK.due("new: back(0)", x.back(0), FoldRule.STATE);
    }

    private static void typing() {
        FoldRule x = new FoldRule();
        CHECK.due("type(-1)", x.type(-1), FoldRule.BAD);
        CHECK.due("type(256)", x.type(256), FoldRule.BAD);
        CHECK.due("type(0)", x.type(0), 1);
        CHECK.due("type(255)", x.type(255), 2);
        for (int i = 3; i <= 90; i++) {
            CHECK.due("type(32), the " + i + "th", x.type(32), i);
        }
        CHECK.due("type(32) when full", x.type(32), FoldRule.FULL);
        CHECK.due("type(256) when full", x.type(256), FoldRule.BAD);
        CHECK.due("count(3) when full", x.count(3), 90);
        CHECK.due("rule() of letter 0", x.rule(), -10);
    }

    private static void clearing() {
        FoldRule x = new FoldRule();
        CHECK.due("clear() of nothing", x.clear(), 0);
        Check.typeAll(x, "k5;");
        CHECK.due("clear()", x.clear(), 3);
        CHECK.due("clear() again", x.clear(), 0);
        CHECK.due("type behind clear()", x.type('k'), 1);
        FoldRule full = new FoldRule();
        Check.typeAll(full, " ".repeat(90));
        CHECK.due("clear() of 90", full.clear(), 90);
        CHECK.due("type behind clear() of 90", full.type(' '), 1);
    }

    private static int read(String text) {
        FoldRule x = new FoldRule();
        Check.typeAll(x, text);
        return x.rule();
    }

    private static void sound(String text, int items) {
        CHECK.due("rule() of '" + text + "'", read(text), items);
    }

    private static void soundTexts() {
        sound("", 0);
        sound("   ", 0);
        sound("k1;", 1);
        sound("k20;", 1);
        sound(" k 7 ; ", 1);
        sound("k1;k2;f0;", 3);
        sound("k1;k2;x0;k3;f1;", 5);
        sound("k1;".repeat(9), 9);
        sound("k1;".repeat(9) + "f7;x0;", 11);
        sound("k1;".repeat(9) + "f0;x1;f2;x3;f4;x5;f6;x7;" + " ".repeat(39), 17);
    }

    private static void fault(String text, int place) {
        FoldRule x = Check.told("k4;k6;f0;");
        Check.typeAll(x, text);
        CHECK.due("rule() of '" + text + "'", x.rule(), -10 - place);
        CHECK.due("letters behind '" + text + "'", x.count(3), text.length());
        CHECK.due("links behind '" + text + "'", x.count(0), 2);
        CHECK.due("folded behind '" + text + "'", x.now(2), 1);
    }

    private static void faults() {
        fault("y", 0);
        fault("K1;", 0);
        fault("\tk1;", 0);
        fault(";", 0);
        fault("  ;", 2);
        fault("5;", 0);
        fault("k", 1);
        fault("k ", 2);
        fault("k5", 2);
        fault("k5  ", 4);
        fault("k5;f", 4);
        fault("kk", 1);
        fault("k;", 1);
        fault("k y", 2);
        fault("k0;", 1);
        fault("k21", 1);
        fault("k99;", 1);
        fault("k100", 1);
        fault("k99999999999999999999;", 1);
        fault("k4294967301;", 1);
        fault("k05;", 1);
        fault("k00;", 1);
        fault("k 1 2;", 4);
        fault("k5k6;", 2);
        fault("k5 y;", 3);
        fault("k5y;", 2);
        fault("k1;;", 3);
        fault("f0;", 1);
        fault("x0;", 1);
        fault("k1;f0;", 4);
        fault("k1;f0;k1;", 4);
        fault("k1;k1;f1;", 7);
        fault("k1;k1;f00;", 7);
        fault("k1;k1;x 2;", 8);
        fault("k1;k1;f;", 7);
        fault("k1;k1;x ;", 8);
        fault("k1;k1;f0;f0;", 10);
        fault("k1;k1;f0;x0;", 10);
        fault("k1;k1;x0;f0;", 10);
        fault("k1;k1;x0; x 0;", 12);
        fault("k1;".repeat(9) + "k", 27);
        fault("k1;".repeat(9) + "f8;", 28);
        fault("k1;".repeat(9) + " k1;y", 28);
        // The first token at fault is told, not one of another sort behind it.
        fault("k0; y", 1);
        fault("k1;k1;f5;k100;", 7);
    }

    private static void readAnew() {
        FoldRule x = Check.told("k4;k6;k2;f0;");
        x.bends(1);
        x.sees(0, 9);
        x.keep(0);
        x.keep(1);
        x.rate(0, 0);
        Check.typeAll(x, "k0;");
        CHECK.due("rule() at fault", x.rule(), -11);
        CHECK.due("still to be undone", x.now(7), 1);
        CHECK.due("still seen", x.count(2), 1);
        CHECK.due("still kept", x.back(0), 6);
        x.bends(1);
        x.clear();
        Check.typeAll(x, "k3;k5;x0;");
        CHECK.due("rule() anew", x.rule(), 3);
        CHECK.due("text behind rule()", x.count(3), 0);
        CHECK.due("links anew", x.count(0), 2);
        CHECK.due("stiff anew", x.count(1), 1);
        CHECK.due("folded anew", x.now(2), 0);
        CHECK.due("undone anew", x.now(7), 0);
        CHECK.due("undo() anew", x.undo(), FoldRule.STATE);
        CHECK.due("seen anew", x.count(2), 0);
        CHECK.due("back(0) anew", x.back(0), FoldRule.STATE);
        CHECK.due("back(1) anew", x.back(1), FoldRule.STATE);
        CHECK.due("the trace stays", x.trace(), 1);
        CHECK.due("rule() of nothing", x.rule(), 0);
        CHECK.due("no links then", x.count(0), 0);
        CHECK.due("none stiff then", x.count(1), 0);
    }

    private static void links() {
        FoldRule x = Check.told("k5;k3;k7;k2;k6;f1;x3;");
        int[] lengths = {5, 3, 7, 2, 6};
        int[] others = {2, 1, 2, 1, 0};
        for (int l = 0; l < 5; l++) {
            CHECK.due("link(" + l + ", 0)", x.link(l, 0), lengths[l]);
            CHECK.due("link(" + l + ", 1)", x.link(l, 1), others[l]);
        }
        CHECK.due("link(5, 0)", x.link(5, 0), FoldRule.BAD);
        CHECK.due("link(-1, 0)", x.link(-1, 0), FoldRule.BAD);
        CHECK.due("link(0, 2)", x.link(0, 2), FoldRule.BAD);
        CHECK.due("link(0, -1)", x.link(0, -1), FoldRule.BAD);
        CHECK.due("link(MIN, MAX)", x.link(Integer.MIN_VALUE, Integer.MAX_VALUE), FoldRule.BAD);
    }

    private static void joints() {
        FoldRule x = Check.told("k5;k3;k7;f0;x1;");
        CHECK.due("joint(0, 0)", x.joint(0, 0), 1);
        CHECK.due("joint(0, 1)", x.joint(0, 1), 0);
        CHECK.due("joint(1, 0)", x.joint(1, 0), 0);
        CHECK.due("joint(1, 1)", x.joint(1, 1), 1);
        CHECK.due("joint(2, 0)", x.joint(2, 0), FoldRule.BAD);
        CHECK.due("joint(-1, 1)", x.joint(-1, 1), FoldRule.BAD);
        CHECK.due("joint(0, 2)", x.joint(0, 2), FoldRule.BAD);
        CHECK.due("joint(0, -1)", x.joint(0, -1), FoldRule.BAD);
        CHECK.due("joint of one link", Check.told("k5;").joint(0, 0), FoldRule.BAD);
    }

    private static void marks() {
        FoldRule x = Check.told("k5;k3;k7;k2;k6;f1;x3;");
        int[] places = {0, 5, 8, 1, -1, -7};
        for (int m = 0; m < places.length; m++) {
            CHECK.due("mark(" + m + ")", x.mark(m), places[m]);
        }
        CHECK.due("mark(6)", x.mark(6), FoldRule.NO);
        CHECK.due("mark(-1)", x.mark(-1), FoldRule.NO);
        CHECK.due("mark(MAX)", x.mark(Integer.MAX_VALUE), FoldRule.NO);
        FoldRule twice = Check.told("k4;k3;k2;f0;f1;");
        CHECK.due("mark(3) of two folds", twice.mark(3), 3);
    }

    private static void asItIsNow() {
        FoldRule x = Check.told("k5;k3;k7;k2;k6;f1;x3;");
        int[] answers = {15, 2, 2, 9, 6, 23, 14, 0};
        for (int what = 0; what < answers.length; what++) {
            CHECK.due("now(" + what + ")", x.now(what), answers[what]);
        }
        CHECK.due("now(8)", x.now(8), FoldRule.BAD);
        CHECK.due("now(-1)", x.now(-1), FoldRule.BAD);
        FoldRule stack = Check.told("k4;".repeat(9) + "f0;f1;f2;f3;f4;f5;f6;f7;");
        CHECK.due("SPAN of one pile", stack.now(0), 4);
        CHECK.due("STACK of one pile", stack.now(1), 9);
        FoldRule longest = Check.told("k20;".repeat(9) + "x0;x1;x2;x3;x4;x5;x6;x7;");
        CHECK.due("LEAST of the longest", longest.now(3), 180);
        CHECK.due("LEAST of the longest: which", longest.now(4), 0);
        CHECK.due("MOST of the longest", longest.now(5), 180);
        FoldRule stiff = Check.told("k4;k5;x0;");
        CHECK.due("LEAST of a stiff rule", stiff.now(3), 9);
        CHECK.due("GAP of 4 and 5 and 9", stiff.now(6), 1);
    }
}
