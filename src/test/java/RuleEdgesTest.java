/** THE RULE, promises 5 to 12: each sentence that names a boundary case. */
public final class RuleEdgesTest {
    private static final Check CHECK = new Check();
    private static final String LONGEST = "k20;".repeat(9);
    private static final String PILE = "f0;f1;f2;f3;f4;f5;f6;f7;";

    public static void main(String[] args) {
        linkNumbers();
        whatOfLinks();
        whatOfJoints();
        marks();
        wayOfLinks();
        spans();
        stacks();
        overOneAnother();
        whatOfNow();
        bending();
        filing();
        turning();
        undoingAll();
        tenAreKnown();
        refusedAreNotUndone();
        undoingAmongChanges();
        CHECK.finish();
    }

    private static void linkNumbers() {
        CHECK.sentence("Of a LINK: .. BAD (there is no such thing)");
        for (int links = 0; links <= 9; links++) {
            FoldRule x = Check.told("k3;".repeat(links));
            for (int l = 0; l < links; l++) {
                CHECK.due("link(" + l + ", 0) of " + links, x.link(l, 0), 3);
            }
            CHECK.due("link(" + links + ", 0) of " + links, x.link(links, 0), FoldRule.BAD);
            CHECK.due("link(" + links + ", 1) of " + links, x.link(links, 1), FoldRule.BAD);
            CHECK.due("link(-1, 0) of " + links, x.link(-1, 0), FoldRule.BAD);
            CHECK.due("link(MIN, 0) of " + links, x.link(Integer.MIN_VALUE, 0), FoldRule.BAD);
            CHECK.due("link(MAX, 0) of " + links, x.link(Integer.MAX_VALUE, 0), FoldRule.BAD);
        }
    }

    private static void whatOfLinks() {
        CHECK.sentence("0 how LONG, 1 how many others lie over some of it. BAD");
        FoldRule x = Check.told("k5;k3;f0;");
        CHECK.due("link(0, -1)", x.link(0, -1), FoldRule.BAD);
        CHECK.due("link(0, 0)", x.link(0, 0), 5);
        CHECK.due("link(0, 1)", x.link(0, 1), 1);
        CHECK.due("link(0, 2)", x.link(0, 2), FoldRule.BAD);
        CHECK.due("link(1, MIN)", x.link(1, Integer.MIN_VALUE), FoldRule.BAD);
        CHECK.due("link(1, MAX)", x.link(1, Integer.MAX_VALUE), FoldRule.BAD);
    }

    private static void whatOfJoints() {
        CHECK.sentence("0 whether it is FOLDED (1, 0), 1 whether it is STIFF (1, 0). BAD");
        FoldRule x = Check.told("k1;".repeat(9) + "f0;x7;");
        CHECK.due("joint(0, -1)", x.joint(0, -1), FoldRule.BAD);
        CHECK.due("joint(0, 0)", x.joint(0, 0), 1);
        CHECK.due("joint(0, 1)", x.joint(0, 1), 0);
        CHECK.due("joint(0, 2)", x.joint(0, 2), FoldRule.BAD);
        CHECK.due("joint(7, 0)", x.joint(7, 0), 0);
        CHECK.due("joint(7, 1)", x.joint(7, 1), 1);
        CHECK.due("joint(8, 0)", x.joint(8, 0), FoldRule.BAD);
        CHECK.due("joint(8, 1)", x.joint(8, 1), FoldRule.BAD);
        // A shift by 32 would find joint 0.
        CHECK.due("joint(32, 0)", x.joint(32, 0), FoldRule.BAD);
        CHECK.due("joint(MIN, 0)", x.joint(Integer.MIN_VALUE, 0), FoldRule.BAD);
        CHECK.due("joint(MAX, 0)", x.joint(Integer.MAX_VALUE, 0), FoldRule.BAD);
    }

    private static void marks() {
        CHECK.sentence("MARKS .. (1 more than LINKS; 1 without LINKS)");
        for (int links = 0; links <= 9; links++) {
            FoldRule x = Check.told("k20;".repeat(links));
            for (int m = 0; m <= links; m++) {
                CHECK.due("mark(" + m + ") of " + links, x.mark(m), 20 * m);
            }
            CHECK.due("mark(" + (links + 1) + ") of " + links, x.mark(links + 1), FoldRule.NO);
            CHECK.due("mark(-1) of " + links, x.mark(-1), FoldRule.NO);
            CHECK.due("mark(MIN) of " + links, x.mark(Integer.MIN_VALUE), FoldRule.NO);
            CHECK.due("mark(MAX) of " + links, x.mark(Integer.MAX_VALUE), FoldRule.NO);
        }
    }

    private static void wayOfLinks() {
        CHECK.sentence("LINK 0 goes from 0 on, up; .. behind a FOLDED one the other way");
        FoldRule lowest = Check.told("k1;" + "k20;".repeat(8) + "f0;");
        CHECK.due("mark(1) of the lowest", lowest.mark(1), 1);
        CHECK.due("mark(9) of the lowest", lowest.mark(9), -159);
        FoldRule last = Check.told("k1;".repeat(9) + "f7;");
        CHECK.due("mark(8), last joint folded", last.mark(8), 8);
        CHECK.due("mark(9), last joint folded", last.mark(9), 7);
        FoldRule pile = Check.told("k1;".repeat(9) + PILE);
        for (int m = 0; m <= 9; m++) {
            CHECK.due("mark(" + m + ") of a pile", pile.mark(m), m % 2);
        }
    }

    private static void spans() {
        CHECK.sentence("SPAN: from the lowest MARK to the highest");
        CHECK.due("SPAN without LINKS", new FoldRule().now(0), 0);
        CHECK.due("SPAN of the shortest", Check.told("k1;").now(0), 1);
        CHECK.due("SPAN of the longest", Check.told(LONGEST).now(0), 180);
        CHECK.due("SPAN of a pile", Check.told(LONGEST + PILE).now(0), 20);
        CHECK.due("SPAN, all below the first joint", Check.told("k3;k10;f0;").now(0), 10);
        CHECK.due("SPAN, neither end is an outer mark", Check.told("k3;k10;k5;f0;f1;").now(0), 10);
    }

    private static void stacks() {
        CHECK.sentence("STACK: the most LINKS that lie over one place between two whole numbers");
        CHECK.due("STACK without LINKS", new FoldRule().now(1), 0);
        CHECK.due("STACK of one", Check.told("k1;").now(1), 1);
        CHECK.due("STACK of links that only touch", Check.told("k4;k4;").now(1), 1);
        CHECK.due("STACK of two", Check.told("k4;k4;f0;").now(1), 2);
        CHECK.due("STACK where two only touch", Check.told("k3;k1;k1;f0;").now(1), 2);
        CHECK.due("STACK in the middle", Check.told("k2;k1;k2;f0;f1;").now(1), 3);
        CHECK.due("STACK below 0", Check.told("k1;k9;k3;k3;f0;f1;f2;").now(1), 3);
        CHECK.due("STACK of nine", Check.told("k1;".repeat(9) + PILE).now(1), 9);
    }

    private static void overOneAnother() {
        CHECK.sentence("how many others lie over some of it");
        CHECK.due("link(0, 1) of one", Check.told("k20;").link(0, 1), 0);
        FoldRule touch = Check.told("k4;k4;");
        CHECK.due("link(0, 1), they only touch", touch.link(0, 1), 0);
        CHECK.due("link(1, 1), they only touch", touch.link(1, 1), 0);
        FoldRule two = Check.told("k3;k1;k1;f0;");
        int[] others = {2, 1, 1};
        for (int l = 0; l < 3; l++) {
            CHECK.due("link(" + l + ", 1)", two.link(l, 1), others[l]);
        }
        FoldRule pile = Check.told("k1;".repeat(9) + PILE);
        for (int l = 0; l < 9; l++) {
            CHECK.due("link(" + l + ", 1) of a pile", pile.link(l, 1), 8);
        }
    }

    private static void whatOfNow() {
        CHECK.sentence("0 SPAN, 1 STACK, .. 7 how many may be UNDONE. BAD.");
        FoldRule x = Check.told(LONGEST + PILE);
        int[] now = {20, 9, 255, 20, 255, 180, 1, 0};
        for (int what = 0; what < now.length; what++) {
            CHECK.due("now(" + what + ")", x.now(what), now[what]);
        }
        CHECK.due("now(-1)", x.now(-1), FoldRule.BAD);
        CHECK.due("now(8)", x.now(8), FoldRule.BAD);
        CHECK.due("now(MIN)", x.now(Integer.MIN_VALUE), FoldRule.BAD);
        CHECK.due("now(MAX)", x.now(Integer.MAX_VALUE), FoldRule.BAD);
    }

    private static void bending() {
        CHECK.sentence("BENT: SPAN then. BAD; STATE: it is STIFF.");
        FoldRule x = Check.told("k4;".repeat(9) + "x0;x7;");
        CHECK.due("bends(-1)", x.bends(-1), FoldRule.BAD);
        CHECK.due("bends(0), stiff", x.bends(0), FoldRule.STATE);
        CHECK.due("bends(7), stiff", x.bends(7), FoldRule.STATE);
        CHECK.due("bends(8)", x.bends(8), FoldRule.BAD);
        CHECK.due("bends(33), not taken for 1", x.bends(33), FoldRule.BAD);
        CHECK.due("bends(MIN)", x.bends(Integer.MIN_VALUE), FoldRule.BAD);
        CHECK.due("bends(MAX)", x.bends(Integer.MAX_VALUE), FoldRule.BAD);
        CHECK.due("now(2) behind refused ones", x.now(2), 0);
        CHECK.due("now(7) behind refused ones", x.now(7), 0);
        FoldRule free = Check.told("k4;".repeat(9));
        CHECK.due("bends(0)", free.bends(0), 32);
        CHECK.due("bends(7)", free.bends(7), 28);
        CHECK.due("now(2)", free.now(2), 129);
        CHECK.due("bends(7), open again", free.bends(7), 32);
        CHECK.due("bends(0), open again", free.bends(0), 36);
        CHECK.due("bends(0) without JOINTS", Check.told("k4;").bends(0), FoldRule.BAD);
        CHECK.due("bends(0) without LINKS", new FoldRule().bends(0), FoldRule.BAD);
    }

    private static void filing() {
        CHECK.sentence("FILED by k (1 .. 19): a LINK is k less LONG (1 is left at least)");
        for (int length = 1; length <= 20; length++) {
            for (int k = 0; k <= 20; k++) {
                FoldRule x = Check.told("k" + length + ";");
                int due = k == 0 || k == 20 ? FoldRule.BAD : k < length ? length - k : FoldRule.STATE;
                CHECK.due("files(0, " + k + ") of " + length, x.files(0, k), due);
                CHECK.due("LONG behind it", x.link(0, 0), due < 0 ? length : due);
                CHECK.due("to be undone behind it", x.now(7), due < 0 ? 0 : 1);
            }
        }
        FoldRule nine = Check.told("k2;".repeat(9));
        CHECK.due("files(-1, 1)", nine.files(-1, 1), FoldRule.BAD);
        CHECK.due("files(9, 1)", nine.files(9, 1), FoldRule.BAD);
        CHECK.due("files(8, 1)", nine.files(8, 1), 1);
        CHECK.due("files(8, 1) again", nine.files(8, 1), FoldRule.STATE);
        CHECK.due("files(0, -1), not made longer", nine.files(0, -1), FoldRule.BAD);
        CHECK.due("files(0, MIN)", nine.files(0, Integer.MIN_VALUE), FoldRule.BAD);
        CHECK.due("files(0, MAX)", nine.files(0, Integer.MAX_VALUE), FoldRule.BAD);
        CHECK.due("files(0, 20), BAD ahead of STATE", nine.files(0, 20), FoldRule.BAD);
        CHECK.due("files(9, 19), BAD ahead of STATE", nine.files(9, 19), FoldRule.BAD);
        CHECK.due("files(MIN, 1)", nine.files(Integer.MIN_VALUE, 1), FoldRule.BAD);
        CHECK.due("files(MAX, 1)", nine.files(Integer.MAX_VALUE, 1), FoldRule.BAD);
        CHECK.due("files(0, 1) without LINKS", new FoldRule().files(0, 1), FoldRule.BAD);
    }

    private static void turning() {
        CHECK.sentence("TURNED: all LINKS, JOINTS .. are in the other order .. STATE: no LINKS.");
        FoldRule none = new FoldRule();
        CHECK.due("turned() without LINKS", none.turned(), FoldRule.STATE);
        CHECK.due("now(7) without LINKS", none.now(7), 0);
        FoldRule one = Check.told("k7;");
        CHECK.due("turned() of one", one.turned(), 0);
        CHECK.due("link(0, 0) of one", one.link(0, 0), 7);
        CHECK.due("now(7) of one", one.now(7), 1);
        FoldRule two = Check.told("k7;k9;f0;");
        CHECK.due("turned() of two", two.turned(), 1);
        CHECK.due("mark(1) of two", two.mark(1), 9);
        CHECK.due("mark(2) of two", two.mark(2), 2);
        FoldRule nine = Check.told("k1;k2;k3;k4;k5;k6;k7;k8;k9;f0;x1;f2;x7;");
        CHECK.due("turned() of nine", nine.turned(), 32 + 128);
        CHECK.due("count(1) of nine", nine.count(1), 1 + 64);
        for (int l = 0; l < 9; l++) {
            CHECK.due("link(" + l + ", 0) of nine", nine.link(l, 0), 9 - l);
        }
        CHECK.due("bends(0), stiff now", nine.bends(0), FoldRule.STATE);
        CHECK.due("turned() again", nine.turned(), 5);
        CHECK.due("count(1) again", nine.count(1), 2 + 128);
        CHECK.due("link(0, 0) again", nine.link(0, 0), 1);
    }

    private static void undoingAll() {
        CHECK.sentence("UNDONE: how many more may be. STATE: none.");
        FoldRule x = Check.told("k5;k3;");
        CHECK.due("undo() of nothing", x.undo(), FoldRule.STATE);
        x.bends(0);
        CHECK.due("undo() of one", x.undo(), 0);
        CHECK.due("now(2)", x.now(2), 0);
        CHECK.due("undo() of no more", x.undo(), FoldRule.STATE);
        CHECK.due("now(2) still", x.now(2), 0);
        CHECK.due("now(7) still", x.now(7), 0);
        CHECK.due("undo() without LINKS", new FoldRule().undo(), FoldRule.STATE);
    }

    private static void tenAreKnown() {
        CHECK.sentence("10 are known, older ones are lost");
        for (int changes = 9; changes <= 12; changes++) {
            FoldRule x = Check.told("k20;");
            for (int i = 1; i <= changes; i++) {
                x.files(0, 1);
                CHECK.due("now(7) behind " + i, x.now(7), Math.min(i, 10));
            }
            int known = Math.min(changes, 10);
            for (int left = known - 1; left >= 0; left--) {
                CHECK.due("undo() of " + changes, x.undo(), left);
                CHECK.due("LONG, " + left + " left of " + changes, x.link(0, 0), 20 - changes + known - left);
            }
            CHECK.due("undo() beyond those of " + changes, x.undo(), FoldRule.STATE);
            CHECK.due("LONG beyond those of " + changes, x.link(0, 0), 20 - changes + known);
        }
    }

    private static void refusedAreNotUndone() {
        CHECK.sentence("the latest bends(), files(), turned() that was not refused");
        FoldRule x = Check.told("k5;k3;k2;x1;");
        x.files(0, 1);
        x.bends(1);
        x.bends(2);
        x.files(1, 3);
        x.files(1, 20);
        x.keep(0);
        x.sees(0, 9);
        x.rate(0, 0);
        x.back(1);
        CHECK.due("now(7)", x.now(7), 1);
        CHECK.due("undo()", x.undo(), 0);
        CHECK.due("link(0, 0)", x.link(0, 0), 5);
        CHECK.due("count(2), sees() is not undone", x.count(2), 1);
    }

    private static void undoingAmongChanges() {
        CHECK.sentence("UNDONE: the latest");
        FoldRule x = Check.told("k20;k9;");
        // Ten places go round more than once, and each time the latest comes back.
        for (int turn = 0; turn < 8; turn++) {
            x.files(0, 1);
            x.bends(0);
            x.turned();
            x.turned();
            CHECK.due("now(7), turn " + turn, x.now(7), Math.min(turn + 4, 10));
            for (int left = 1; left <= 3; left++) {
                CHECK.due("undo(), turn " + turn, x.undo(), Math.min(turn + 4, 10) - left);
            }
            CHECK.due("link(0, 0), turn " + turn, x.link(0, 0), 19 - turn);
            CHECK.due("now(2), turn " + turn, x.now(2), 0);
        }
    }
}
