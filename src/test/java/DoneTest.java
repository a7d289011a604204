/** Promises 9 to 12 and 21 to 25: what is done and undone, kinds, images. */
public final class DoneTest {
    private static final Check CHECK = new Check();

    public static void main(String[] args) {
        bending();
        filing();
        turning();
        undoing();
        rating();
        images();
        counting();
        CHECK.finish();
    }

    private static void bending() {
        FoldRule x = Check.told("k5;k3;k7;x1;");
        CHECK.due("bends(0)", x.bends(0), 10);
        CHECK.due("joint(0, 0)", x.joint(0, 0), 1);
        CHECK.due("bends(0) again", x.bends(0), 15);
        CHECK.due("joint(0, 0) again", x.joint(0, 0), 0);
        CHECK.due("bends(1), stiff", x.bends(1), FoldRule.STATE);
        CHECK.due("bends(2)", x.bends(2), FoldRule.BAD);
        CHECK.due("bends(-1)", x.bends(-1), FoldRule.BAD);
        CHECK.due("bends(32)", x.bends(32), FoldRule.BAD);
        CHECK.due("refused ones are not undone", x.now(7), 2);
        CHECK.due("bends(0) of nothing", new FoldRule().bends(0), FoldRule.BAD);
    }

    private static void filing() {
        FoldRule x = Check.told("k20;k3;f0;");
        CHECK.due("files(0, 20)", x.files(0, 20), FoldRule.BAD);
        CHECK.due("files(0, 0)", x.files(0, 0), FoldRule.BAD);
        CHECK.due("files(2, 1)", x.files(2, 1), FoldRule.BAD);
        CHECK.due("files(-1, 1)", x.files(-1, 1), FoldRule.BAD);
        CHECK.due("files(1, 20), BAD first", x.files(1, 20), FoldRule.BAD);
        CHECK.due("files(1, 3)", x.files(1, 3), FoldRule.STATE);
        CHECK.due("files(1, 2)", x.files(1, 2), 1);
        CHECK.due("files(1, 1)", x.files(1, 1), FoldRule.STATE);
        CHECK.due("files(0, 19)", x.files(0, 19), 1);
        CHECK.due("SPAN behind it", x.now(0), 1);
        CHECK.due("two may be undone", x.now(7), 2);
        CHECK.due("files(0, MIN)", x.files(0, Integer.MIN_VALUE), FoldRule.BAD);
    }

    private static void turning() {
        FoldRule x = Check.told("k5;k3;k7;k2;f0;x1;");
        CHECK.due("turned()", x.turned(), 4);
        CHECK.due("stiff then", x.count(1), 2);
        int[] lengths = {2, 7, 3, 5};
        for (int l = 0; l < 4; l++) {
            CHECK.due("link(" + l + ", 0) then", x.link(l, 0), lengths[l]);
        }
        CHECK.due("mark(4) then", x.mark(4), 7);
        CHECK.due("undo()", x.undo(), 0);
        CHECK.due("folded as before", x.now(2), 1);
        FoldRule stiffFirst = Check.told("k1;k2;k3;k4;x0;");
        stiffFirst.turned();
        CHECK.due("stiff joint at the other end", stiffFirst.count(1), 4);
        CHECK.due("bends(2) of it", stiffFirst.bends(2), FoldRule.STATE);
        FoldRule one = Check.told("k9;");
        CHECK.due("turned() of one link", one.turned(), 0);
        CHECK.due("it may be undone", one.now(7), 1);
        FoldRule none = new FoldRule();
        CHECK.due("turned() of none", none.turned(), FoldRule.STATE);
        CHECK.due("nothing to be undone", none.now(7), 0);
    }

    private static void undoing() {
        FoldRule x = Check.told("k20;k20;k2;x1;");
        CHECK.due("undo() at first", x.undo(), FoldRule.STATE);
        x.files(0, 3);
        x.bends(0);
        x.turned();
        CHECK.due("undo() of turned", x.undo(), 2);
        CHECK.due("link(0, 0)", x.link(0, 0), 17);
        CHECK.due("stiff", x.count(1), 2);
        CHECK.due("undo() of bends", x.undo(), 1);
        CHECK.due("folded", x.now(2), 0);
        CHECK.due("undo() of files", x.undo(), 0);
        CHECK.due("link(0, 0) as told", x.link(0, 0), 20);
        CHECK.due("undo() of nothing", x.undo(), FoldRule.STATE);
        for (int i = 1; i <= 13; i++) {
            x.files(i % 2, 1);
            CHECK.due("now(7) behind " + i, x.now(7), Math.min(i, 10));
        }
        for (int left = 9; left >= 0; left--) {
            CHECK.due("undo() with " + left + " left", x.undo(), left);
        }
        CHECK.due("undo() of lost ones", x.undo(), FoldRule.STATE);
        CHECK.due("link(0, 0) of lost ones", x.link(0, 0), 19);
        CHECK.due("link(1, 0) of lost ones", x.link(1, 0), 18);
    }

    private static void rating() {
        FoldRule x = Check.told("k5;k3;k7;k2;k6;f1;x3;");
        // LONG 7, first MARK 8, SPAN 15, STACK 2
        int[] rates = {7, 15, -8, 30, -6, 9};
        long[] traces = {1, 11, 101, 1011, 10101, 100001};
        long sum = 0;
        for (int kind = 0; kind < 6; kind++) {
            CHECK.due("rate(" + kind + ", 2)", x.rate(kind, 2), rates[kind]);
            sum += traces[kind];
            CHECK.due("trace() behind kind " + kind, x.trace(), sum);
        }
        CHECK.due("rate(6, 0)", x.rate(6, 0), FoldRule.NO);
        CHECK.due("rate(-1, 0)", x.rate(-1, 0), FoldRule.NO);
        CHECK.due("rate(0, 5)", x.rate(0, 5), FoldRule.NO);
        CHECK.due("rate(0, -1)", x.rate(0, -1), FoldRule.NO);
        CHECK.due("trace() behind refused ones", x.trace(), sum);
        CHECK.due("rate(0, 0) of nothing", new FoldRule().rate(0, 0), FoldRule.NO);
        FoldRule below = Check.told("k2;k9;k4;f0;");
        CHECK.due("rate(3, 2) below 0", below.rate(3, 2), -6);
    }

    private static void images() {
        FoldRule x = Check.told("k5;k3;k7;x1;");
        CHECK.due("keep(2)", x.keep(2), FoldRule.BAD);
        CHECK.due("keep(-1)", x.keep(-1), FoldRule.BAD);
        CHECK.due("back(2)", x.back(2), FoldRule.BAD);
        CHECK.due("back(-1)", x.back(-1), FoldRule.BAD);
        CHECK.due("back(0), none", x.back(0), FoldRule.STATE);
        CHECK.due("keep(0)", x.keep(0), 15);
        CHECK.due("back(1), none", x.back(1), FoldRule.STATE);
        x.bends(0);
        x.files(2, 4);
        x.turned();
        x.sees(0, 9);
        CHECK.due("refused back() leaves undo", x.back(1), FoldRule.STATE);
        CHECK.due("now(7) ahead of back()", x.now(7), 3);
        CHECK.due("keep(1)", x.keep(1), 6);
        CHECK.due("now(7) behind keep()", x.now(7), 3);
        CHECK.due("back(0)", x.back(0), 15);
        CHECK.due("undo() behind back()", x.undo(), FoldRule.STATE);
        CHECK.due("stiff behind back()", x.count(1), 2);
        CHECK.due("link(2, 0) behind back()", x.link(2, 0), 7);
        CHECK.due("seen behind back()", x.count(2), 1);
        x.bends(0);
        CHECK.due("back(0) once more", x.back(0), 15);
        CHECK.due("back(1)", x.back(1), 6);
        CHECK.due("stiff behind back(1)", x.count(1), 1);
        FoldRule none = new FoldRule();
        CHECK.due("keep(0) of nothing", none.keep(0), 0);
        CHECK.due("back(0) of nothing", none.back(0), 0);
    }

    private static void counting() {
        FoldRule x = Check.told("k5;k3;k7;f0;x1;");
        x.sees(1, 9);
        x.type('k');
        CHECK.due("count(0)", x.count(0), 3);
        CHECK.due("count(1)", x.count(1), 2);
        CHECK.due("count(2)", x.count(2), 1);
        CHECK.due("count(3)", x.count(3), 1);
        CHECK.due("count(4)", x.count(4), FoldRule.BAD);
        CHECK.due("count(-1)", x.count(-1), FoldRule.BAD);
        CHECK.due("trace() without rates", x.trace(), 0);
    }
}
