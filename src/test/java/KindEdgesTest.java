/** KINDS and IMAGES, promises 21 to 25: each sentence that names a boundary case. */
public final class KindEdgesTest {
    private static final Check CHECK = new Check();

    public static void main(String[] args) {
        kindNumbers();
        kindsUnderOneAnother();
        ratesBelowZero();
        traceAddsUp();
        traceStays();
        imageNumbers();
        noneWasKept();
        keptOnceMore();
        imagesKeepNothingElse();
        nothingUndoneBehindBack();
        imagesWithoutLinks();
        readAnew();
        counts();
        lastCall();
        CHECK.finish();
    }

    private static void kindNumbers() {
        CHECK.sentence("RATE. NO: BAD.");
        FoldRule x = Check.told("k3;".repeat(9));
        CHECK.due("rate(-1, 0)", x.rate(-1, 0), FoldRule.NO);
        CHECK.due("rate(0, 0)", x.rate(0, 0), 3);
        CHECK.due("rate(5, 0)", x.rate(5, 0), 4);
        CHECK.due("rate(6, 0)", x.rate(6, 0), FoldRule.NO);
        CHECK.due("rate(MIN, 0)", x.rate(Integer.MIN_VALUE, 0), FoldRule.NO);
        CHECK.due("rate(MAX, 0)", x.rate(Integer.MAX_VALUE, 0), FoldRule.NO);
        CHECK.due("rate(1, -1)", x.rate(1, -1), FoldRule.NO);
        CHECK.due("rate(1, 8)", x.rate(1, 8), 27);
        CHECK.due("rate(1, 9), a MARK but no LINK", x.rate(1, 9), FoldRule.NO);
        CHECK.due("rate(1, MIN)", x.rate(1, Integer.MIN_VALUE), FoldRule.NO);
        CHECK.due("rate(1, MAX)", x.rate(1, Integer.MAX_VALUE), FoldRule.NO);
        for (int kind = 0; kind <= 5; kind++) {
            CHECK.due("rate(" + kind + ", 0) without LINKS", new FoldRule().rate(kind, 0), FoldRule.NO);
        }
    }

    private static void kindsUnderOneAnother() {
        CHECK.sentence("KINDS .. are over one another .. (numbers in brackets are added to THE TRACE .. each once)");
        // LONG 20, 1, 7; MARKS 0, 20, 19, 26; SPAN 26, STACK 3 between 19 and 20.
        int[][] rates = {
            {20, 1, 7}, {20, 21, 26}, {-6, -25, -19}, {40, 42, 52}, {-6, -24, -17}, {23, 4, 10},
        };
        int[] traces = {1, 11, 101, 1011, 10101, 100001};
        for (int kind = 0; kind <= 5; kind++) {
            for (int l = 0; l < 3; l++) {
                FoldRule x = Check.told("k20;k1;k7;f0;f1;");
                CHECK.due("rate(" + kind + ", " + l + ")", x.rate(kind, l), rates[kind][l]);
                CHECK.due("trace() behind it", x.trace(), traces[kind]);
            }
        }
    }

    private static void ratesBelowZero() {
        CHECK.sentence("NO = -1000000: What is BAD, where a number may be below 0.");
        FoldRule x = Check.told("k1;" + "k20;".repeat(8) + "f0;");
        CHECK.due("rate(1, 8), -119 below 0", x.rate(1, 8), -119);
        CHECK.due("rate(3, 8), twice that", x.rate(3, 8), -238);
        CHECK.due("rate(2, 0), SPAN 160", x.rate(2, 0), -159);
        // A mark or a rate may be what another call is refused by.
        FoldRule alike = Check.told("k1;k3;k6;f0;");
        CHECK.due("mark(2) as STATE is", alike.mark(2), -2);
        CHECK.due("mark(3)", alike.mark(3), -8);
        CHECK.due("rate(2, 2) as FULL is", alike.rate(2, 2), -3);
        CHECK.due("rate(4, 2) as BAD is", alike.rate(4, 2), -1);
    }

    private static void traceAddsUp() {
        CHECK.sentence("added to THE TRACE, 0 at first, as often as rate() asks that body");
        FoldRule x = Check.told("k3;");
        CHECK.due("trace() at first", x.trace(), 0);
        x.rate(6, 0);
        x.rate(-1, 0);
        x.rate(5, 1);
        x.rate(5, -1);
        CHECK.due("trace() behind refused ones", x.trace(), 0);
        for (int i = 1; i <= 12; i++) {
            x.rate(0, 0);
        }
        CHECK.due("trace() behind twelve", x.trace(), 12);
        for (int i = 1; i <= 400; i++) {
            x.rate(5, 0);
        }
        CHECK.due("trace() behind 400 more", x.trace(), 40000412L);
    }

    private static void traceStays() {
        CHECK.sentence("THE TRACE");
        FoldRule x = Check.told("k3;k4;");
        x.keep(0);
        x.rate(4, 1);
        x.bends(0);
        x.undo();
        x.back(0);
        x.clear();
        x.forget();
        x.rule();
        CHECK.due("trace() behind all that", x.trace(), 10101);
        CHECK.due("trace() is not gone by asking", x.trace(), 10101);
    }

    private static void imageNumbers() {
        CHECK.sentence("IMAGES 0, 1 .. BAD");
        FoldRule x = Check.told("k3;k4;");
        int[] none = {-1, 2, Integer.MIN_VALUE, Integer.MAX_VALUE};
        for (int image : none) {
            CHECK.due("keep(" + image + ")", x.keep(image), FoldRule.BAD);
            CHECK.due("back(" + image + "), BAD ahead of STATE", x.back(image), FoldRule.BAD);
        }
        CHECK.due("keep(0)", x.keep(0), 7);
        CHECK.due("keep(1)", x.keep(1), 7);
        for (int image : none) {
            CHECK.due("back(" + image + ") of two", x.back(image), FoldRule.BAD);
        }
        CHECK.due("back(0)", x.back(0), 7);
        CHECK.due("back(1)", x.back(1), 7);
    }

    private static void noneWasKept() {
        CHECK.sentence("All of that becomes as an IMAGE has it: SPAN. BAD; STATE: none was kept.");
        FoldRule x = Check.told("k3;k4;");
        CHECK.due("back(0), none", x.back(0), FoldRule.STATE);
        CHECK.due("back(1), none", x.back(1), FoldRule.STATE);
        x.keep(1);
        CHECK.due("back(0), only 1 was kept", x.back(0), FoldRule.STATE);
        x.bends(0);
        CHECK.due("back(0), refused", x.back(0), FoldRule.STATE);
        CHECK.due("now(7) behind it", x.now(7), 1);
        CHECK.due("now(2) behind it", x.now(2), 1);
        CHECK.due("back(1)", x.back(1), 7);
        CHECK.due("now(2)", x.now(2), 0);
        FoldRule other = Check.told("k3;k4;");
        other.keep(0);
        CHECK.due("back(1), only 0 was kept", other.back(1), FoldRule.STATE);
    }

    private static void keptOnceMore() {
        CHECK.sentence("An IMAGE is kept: SPAN.");
        FoldRule x = Check.told("k9;k4;k2;x1;");
        CHECK.due("keep(0)", x.keep(0), 15);
        x.turned();
        x.bends(1);
        x.files(0, 1);
        CHECK.due("keep(1)", x.keep(1), 9);
        CHECK.due("back(0)", x.back(0), 15);
        CHECK.due("link(0, 0) of image 0", x.link(0, 0), 9);
        CHECK.due("count(1) of image 0", x.count(1), 2);
        x.files(0, 8);
        CHECK.due("keep(0), over the older one", x.keep(0), 7);
        CHECK.due("back(1)", x.back(1), 9);
        CHECK.due("link(0, 0) of image 1", x.link(0, 0), 1);
        CHECK.due("count(1) of image 1", x.count(1), 1);
        CHECK.due("now(2) of image 1", x.now(2), 2);
        CHECK.due("back(0), the newer one", x.back(0), 7);
        x.files(1, 3);
        CHECK.due("back(0) once more, not filed in it", x.back(0), 7);
        CHECK.due("link(1, 0)", x.link(1, 0), 4);
    }

    private static void imagesKeepNothingElse() {
        CHECK.sentence("IMAGES 0, 1 keep NOW (LINKS, JOINTS); nothing else");
        FoldRule x = Check.told("k9;k4;");
        x.keep(0);
        x.type('k');
        x.sees(0, 12);
        x.rate(0, 0);
        x.keep(1);
        x.back(0);
        CHECK.due("letters stay", x.count(3), 1);
        CHECK.due("what was SEEN stays", x.count(2), 1);
        CHECK.due("the trace stays", x.trace(), 1);
        CHECK.due("the other image stays", x.back(1), 13);
        x.forget();
        x.back(0);
        CHECK.due("what was forgotten does not come back", x.count(2), 0);
    }

    private static void nothingUndoneBehindBack() {
        CHECK.sentence("nothing can be UNDONE behind back()");
        FoldRule x = Check.told("k20;k4;");
        for (int i = 0; i < 12; i++) {
            x.files(0, 1);
        }
        x.keep(0);
        CHECK.due("now(7) behind keep()", x.now(7), 10);
        CHECK.due("undo() behind keep()", x.undo(), 9);
        CHECK.due("back(0)", x.back(0), 12);
        CHECK.due("now(7)", x.now(7), 0);
        CHECK.due("undo()", x.undo(), FoldRule.STATE);
        x.files(0, 1);
        CHECK.due("now(7) of what is done behind it", x.now(7), 1);
        CHECK.due("undo() of what is done behind it", x.undo(), 0);
        CHECK.due("link(0, 0)", x.link(0, 0), 8);
        CHECK.due("undo() of no more", x.undo(), FoldRule.STATE);
    }

    private static void imagesWithoutLinks() {
        CHECK.sentence("IMAGES .. keep NOW (no LINKS)");
        FoldRule x = new FoldRule();
        CHECK.due("keep(0)", x.keep(0), 0);
        CHECK.due("back(1)", x.back(1), FoldRule.STATE);
        CHECK.due("back(0)", x.back(0), 0);
        CHECK.due("count(0)", x.count(0), 0);
    }

    private static void readAnew() {
        CHECK.sentence("Read anew: as told, nothing SEEN, IMAGES are gone.");
        FoldRule x = Check.told("k9;k4;");
        x.keep(0);
        x.keep(1);
        x.sees(0, 12);
        x.bends(0);
        x.files(0, 3);
        Check.typeAll(x, "k9;k4;");
        CHECK.due("rule(), the same once more", x.rule(), 2);
        CHECK.due("link(0, 0), as told", x.link(0, 0), 9);
        CHECK.due("now(2), as told", x.now(2), 0);
        CHECK.due("now(7)", x.now(7), 0);
        CHECK.due("undo()", x.undo(), FoldRule.STATE);
        CHECK.due("count(2)", x.count(2), 0);
        CHECK.due("ways(0)", x.ways(0), 11);
        CHECK.due("back(0)", x.back(0), FoldRule.STATE);
        CHECK.due("back(1)", x.back(1), FoldRule.STATE);
        x.keep(0);
        x.sees(0, 12);
        CHECK.due("rule() of no letters", x.rule(), 0);
        CHECK.due("count(2) behind no letters", x.count(2), 0);
        CHECK.due("back(0) behind no letters", x.back(0), FoldRule.STATE);
    }

    private static void counts() {
        CHECK.sentence("0 LINKS, 1 STIFF JOINTS (bits), 2 SEEN, 3 letters of THE TEXT. BAD.");
        FoldRule x = Check.told("k1;".repeat(9) + "x0;x1;x2;x3;x4;x5;x6;x7;");
        for (int i = 0; i < 6; i++) {
            x.sees(0, 9);
        }
        Check.typeAll(x, "y".repeat(90));
        CHECK.due("count(-1)", x.count(-1), FoldRule.BAD);
        CHECK.due("count(0)", x.count(0), 9);
        CHECK.due("count(1)", x.count(1), 255);
        CHECK.due("count(2)", x.count(2), 6);
        CHECK.due("count(3)", x.count(3), 90);
        CHECK.due("count(4)", x.count(4), FoldRule.BAD);
        CHECK.due("count(MIN)", x.count(Integer.MIN_VALUE), FoldRule.BAD);
        CHECK.due("count(MAX)", x.count(Integer.MAX_VALUE), FoldRule.BAD);
    }

    private static void lastCall() {
        CHECK.sentence("An object is used for at most 512 calls after it has been made");
        FoldRule x = Check.told("k20;k19;");
        // Eight letters and rule() are nine calls.
        for (int call = 10; call <= 510; call++) {
            CHECK.due("bends(0), call " + call, x.bends(0), call % 2 == 0 ? 20 : 39);
        }
        CHECK.due("undo(), call 511", x.undo(), 9);
        CHECK.due("now(0), call 512", x.now(0), 39);
    }
}
