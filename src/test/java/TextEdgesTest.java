/** LINKS and the text that tells them, promises 1 to 4: each sentence that names a boundary case. */
public final class TextEdgesTest {
    private static final Check CHECK = new Check();
    private static final String NINE = "k1;".repeat(9);

    public static void main(String[] args) {
        newObject();
        letters();
        ninetyLetters();
        clearing();
        nineLinks();
        howLong();
        oneJointLess();
        emptyTexts();
        blanks();
        itemsEnd();
        jointsToldAhead();
        toldOnce();
        everyLetter();
        numbers();
        textEndsTooEarly();
        firstTokenAtFault();
        toldAnew();
        CHECK.finish();
    }

    private static int read(String text) {
        FoldRule x = new FoldRule();
        Check.typeAll(x, text);
        return x.rule();
    }

    private static void sound(String text, int items) {
        FoldRule x = new FoldRule();
        Check.typeAll(x, text);
        CHECK.due("rule() of '" + text + "'", x.rule(), items);
        CHECK.due("letters behind '" + text + "'", x.count(3), 0);
    }

    private static void fault(String text, int place) {
        FoldRule x = new FoldRule();
        Check.typeAll(x, text);
        CHECK.due("rule() of '" + text + "'", x.rule(), -10 - place);
        CHECK.due("letters behind '" + text + "'", x.count(3), text.length());
        CHECK.due("links behind '" + text + "'", x.count(0), 0);
    }

    private static void newObject() {
        CHECK.sentence("As told; no LINKS.");
        FoldRule x = new FoldRule();
        int[] now = {0, 0, 0, 0, 0, 0, 1, 0};
        for (int what = 0; what < now.length; what++) {
            CHECK.due("now(" + what + ")", x.now(what), now[what]);
        }
        for (int what = 0; what < 4; what++) {
            CHECK.due("count(" + what + ")", x.count(what), 0);
        }
        CHECK.due("clear()", x.clear(), 0);
        CHECK.due("forget()", x.forget(), 0);
        CHECK.due("undo()", x.undo(), FoldRule.STATE);
        CHECK.due("turned()", x.turned(), FoldRule.STATE);
        CHECK.due("back(0)", x.back(0), FoldRule.STATE);
        CHECK.due("back(1)", x.back(1), FoldRule.STATE);
        CHECK.due("trace()", x.trace(), 0);
    }

    private static void letters() {
        CHECK.sentence("A letter (0 .. 255) comes to THE TEXT: how many it has. BAD");
        FoldRule x = new FoldRule();
        CHECK.due("type(-1)", x.type(-1), FoldRule.BAD);
        CHECK.due("type(256)", x.type(256), FoldRule.BAD);
        CHECK.due("type(MIN)", x.type(Integer.MIN_VALUE), FoldRule.BAD);
        CHECK.due("type(MAX)", x.type(Integer.MAX_VALUE), FoldRule.BAD);
        CHECK.due("type(256 + 'k'), not taken for k", x.type(256 + 'k'), FoldRule.BAD);
        CHECK.due("count(3) behind refused ones", x.count(3), 0);
        CHECK.due("type(0)", x.type(0), 1);
        CHECK.due("type(255)", x.type(255), 2);
        CHECK.due("count(3)", x.count(3), 2);
    }

    private static void ninetyLetters() {
        CHECK.sentence("a text (90 letters at most) .. FULL");
        FoldRule x = new FoldRule();
        Check.typeAll(x, "k7;" + " ".repeat(86));
        CHECK.due("type(32), the 90th", x.type(' '), 90);
        CHECK.due("type('y'), the 91st", x.type('y'), FoldRule.FULL);
        CHECK.due("type(255) when full", x.type(255), FoldRule.FULL);
        CHECK.due("type(-1) when full, BAD ahead of FULL", x.type(-1), FoldRule.BAD);
        CHECK.due("type(256) when full, BAD ahead of FULL", x.type(256), FoldRule.BAD);
        CHECK.due("count(3)", x.count(3), 90);
        CHECK.due("rule(), without what came too late", x.rule(), 1);
        CHECK.due("type(32) behind rule()", x.type(' '), 1);
        sound(" ".repeat(87) + "k7;", 1);
        fault(" ".repeat(89) + ";", 89);
        fault(" ".repeat(89) + "k", 90);
        fault("k7" + " ".repeat(88), 90);
    }

    private static void clearing() {
        CHECK.sentence("THE TEXT is empty: how many letters it had.");
        FoldRule x = Check.told("k4;k6;f0;");
        CHECK.due("clear() of none", x.clear(), 0);
        x.type('y');
        CHECK.due("clear() of one", x.clear(), 1);
        CHECK.due("count(3)", x.count(3), 0);
        Check.typeAll(x, "y".repeat(90));
        CHECK.due("clear() of 90", x.clear(), 90);
        CHECK.due("clear() once more", x.clear(), 0);
        CHECK.due("links stay", x.count(0), 2);
        CHECK.due("folded stay", x.now(2), 1);
        CHECK.due("type(107) behind 90 that are gone", x.type('k'), 1);
        Check.typeAll(x, "3;");
        CHECK.due("rule() without those that are gone", x.rule(), 1);
    }

    private static void nineLinks() {
        CHECK.sentence("LINKS (9 at most)");
        sound(NINE, 9);
        CHECK.due("count(0) of nine", Check.told(NINE).count(0), 9);
        fault(NINE + "k", 27);
        fault(NINE + "k1;", 27);
        fault(NINE + "  k0;", 29);
        sound(NINE + "f0;x7;", 11);
        fault(NINE + "f0;k1;", 30);
        CHECK.due("count(0) of eight", Check.told("k1;".repeat(8)).count(0), 8);
    }

    private static void howLong() {
        CHECK.sentence("LONG (1 .. 20)");
        CHECK.due("link(0, 0) of k1", Check.told("k1;").link(0, 0), 1);
        CHECK.due("link(0, 0) of k20", Check.told("k20;").link(0, 0), 20);
        CHECK.due("link(0, 0) of k9", Check.told("k9;").link(0, 0), 9);
        CHECK.due("link(0, 0) of k10", Check.told("k10;").link(0, 0), 10);
        fault("k0;", 1);
        fault("k21;", 1);
        fault("k30;", 1);
        fault("k 0;", 2);
        fault("k1;k 21;", 5);
    }

    private static void oneJointLess() {
        CHECK.sentence("JOINT j is between LINK j and the next one (1 less than LINKS): open (at first)");
        for (int links = 0; links <= 9; links++) {
            FoldRule x = Check.told("k1;".repeat(links));
            int joints = Math.max(links - 1, 0);
            for (int j = 0; j < joints; j++) {
                CHECK.due("joint(" + j + ", 0) of " + links, x.joint(j, 0), 0);
                CHECK.due("joint(" + j + ", 1) of " + links, x.joint(j, 1), 0);
            }
            CHECK.due("joint(" + joints + ", 0) of " + links, x.joint(joints, 0), FoldRule.BAD);
            CHECK.due("joint(-1, 0) of " + links, x.joint(-1, 0), FoldRule.BAD);
        }
    }

    private static void emptyTexts() {
        CHECK.sentence("a text .. ITEMS (none)");
        sound("", 0);
        sound(" ", 0);
        sound(" ".repeat(90), 0);
        FoldRule x = Check.told("k4;k6;f0;");
        CHECK.due("rule() of no letters behind links", x.rule(), 0);
        CHECK.due("count(0)", x.count(0), 0);
        CHECK.due("now(2)", x.now(2), 0);
        CHECK.due("mark(1)", x.mark(1), FoldRule.NO);
    }

    private static void blanks() {
        CHECK.sentence("blanks (32) between TOKENS");
        sound("  k  1  ;  k  2  ;  f  0  ;  ", 3);
        sound("k1;k2;f0;", 3);
        CHECK.due("k12 is one token", Check.told("k12;").link(0, 0), 12);
        fault("k1 2;", 3);
        int[] others = {0, 9, 10, 13, 31, 33, 127, 160, 255};
        for (int letter : others) {
            fault((char) letter + "k1;", 0);
            fault("k" + (char) letter + "1;", 1);
            fault("k1" + (char) letter + ";", 2);
            fault("k1;" + (char) letter, 3);
        }
    }

    private static void itemsEnd() {
        CHECK.sentence("ITEMS, each ended by ;");
        fault("k1", 2);
        fault("k1 ", 3);
        fault("k1k1;", 2);
        fault("k1 k1;", 3);
        fault("k1;k1;f0x0;", 8);
        fault("k1;k1;f0", 8);
        fault("k1;;", 3);
        fault(";k1;", 0);
    }

    private static void jointsToldAhead() {
        CHECK.sentence("a JOINT is one of those between LINKS told ahead");
        fault("f0;", 1);
        fault("x0;", 1);
        fault("k1;f0;k1;", 4);
        fault("k1;x0;k1;", 4);
        sound("k1;k1;f0;", 3);
        sound("k1;k1;x0;k1;", 4);
        fault("k1;k1;f1;k1;", 7);
        fault("k1;k1;x1;k1;", 7);
        sound("k1;k1;k1;f1;f0;", 5);
        sound(NINE + "f7;", 10);
        sound(NINE + "x7;", 10);
        fault(NINE + "f8;", 28);
        fault(NINE + "x8;", 28);
        FoldRule x = Check.told("k1;k1;f0;k1;x1;");
        CHECK.due("now(2)", x.now(2), 1);
        CHECK.due("count(1)", x.count(1), 2);
    }

    private static void toldOnce() {
        CHECK.sentence("each told once at most by f or x");
        fault("k1;k1;f0;f0;", 10);
        fault("k1;k1;f0;x0;", 10);
        fault("k1;k1;x0;f0;", 10);
        fault("k1;k1;x0;x0;", 10);
        fault("k1;k1;k1;f1;k1;f 1;", 17);
        sound(NINE + "f0;x1;f2;x3;f4;x5;f6;x7;", 17);
        fault(NINE + "f0;x1;f2;x3;f4;x5;f6;x7;f7;", 52);
        fault(NINE + "f0;x1;f2;x3;f4;x5;f6;x7;x0;", 52);
    }

    private static void everyLetter() {
        CHECK.sentence("TOKENS are the letters k, f, x, NUMBERS and ; .. any other letter");
        for (int letter = 0; letter <= 255; letter++) {
            String sign = String.valueOf((char) letter);
            boolean isDigit = letter >= '0' && letter <= '9';
            boolean isHead = letter == 'k' || letter == 'f' || letter == 'x';
            boolean isBlank = letter == ' ';
            int alone = isBlank ? 0 : isHead ? -11 : -10;
            CHECK.due("rule() of letter " + letter, read(sign), alone);
            int inNumbersPlace = isBlank ? -12 : isDigit && letter > '0' ? -12 : -11;
            CHECK.due("rule() of k and letter " + letter, read("k" + sign), inNumbersPlace);
            int behindNumber = isBlank ? -13 : letter == ';' ? 1 : isDigit ? -13 : -12;
            CHECK.due("rule() of k1 and letter " + letter, read("k1" + sign), behindNumber);
        }
    }

    private static void numbers() {
        CHECK.sentence("a NUMBER above 99 or with a 0 ahead of others, that TOKEN's");
        fault("k99;", 1);
        fault("k100;", 1);
        fault("k100", 1);
        fault("k1000;", 1);
        // These are 5 and 0 in 32 bits, 5 in 64.
        fault("k4294967301;", 1);
        fault("k1;k1;f4294967296;", 7);
        fault("k18446744073709551621;", 1);
        fault("k" + "9".repeat(89), 1);
        fault("k01;", 1);
        fault("k001;", 1);
        fault("k00;", 1);
        fault("k1;k1;f00;", 7);
        fault("k1;k1;x 01;", 8);
        fault("k1;k1;f" + "0".repeat(80) + ";", 7);
        sound("k1;k1;f0;", 3);
        // No NUMBER is not taken for 0.
        fault("k;", 1);
        fault("k1;k1;f;", 7);
        fault("k1;k1;x ;", 8);
        fault("100", 0);
        fault("01", 0);
        fault("k1 100;", 3);
    }

    private static void textEndsTooEarly() {
        CHECK.sentence("the text's length, if it ends too early");
        String text = "k5 ; k 13;f0;";
        int[] answers = {0, -11, -12, -13, 1, 1, -16, -17, -18, -19, 2, -21, -22, 3};
        for (int length = 0; length < answers.length; length++) {
            String part = text.substring(0, length);
            CHECK.due("rule() of '" + part + "'", read(part), answers[length]);
        }
    }

    private static void firstTokenAtFault() {
        CHECK.sentence("the place of the first letter of the first TOKEN that can't stand there");
        fault("k1;k1;f5;y", 7);
        fault("k1;y;f5;", 3);
        fault("k0;k100;", 1);
        fault("k1;k100;k0;", 4);
        fault("k1;f0;f0", 4);
        fault(NINE + "k0;y", 27);
        fault(NINE + "f9;k1;", 28);
        fault("k21", 1);
        fault("k f", 2);
    }

    private static void toldAnew() {
        CHECK.sentence("THE TEXT tells all anew, and is empty then");
        FoldRule x = Check.told(NINE + "f0;f1;x2;");
        Check.typeAll(x, "k20;k3;");
        CHECK.due("rule()", x.rule(), 2);
        CHECK.due("count(0)", x.count(0), 2);
        CHECK.due("count(1)", x.count(1), 0);
        CHECK.due("count(3)", x.count(3), 0);
        CHECK.due("now(2)", x.now(2), 0);
        CHECK.due("now(0)", x.now(0), 23);
        CHECK.due("link(2, 0)", x.link(2, 0), FoldRule.BAD);
        CHECK.due("joint(1, 0)", x.joint(1, 0), FoldRule.BAD);
        CHECK.due("mark(3)", x.mark(3), FoldRule.NO);
        // A text at fault reads its first items, which must leave no trace in a later one.
        Check.typeAll(x, "k1;k1;k1;f1;x0;y");
        CHECK.due("rule() at fault", x.rule(), -25);
        x.clear();
        Check.typeAll(x, "k2;k2;f0;");
        CHECK.due("rule() behind a fault", x.rule(), 3);
        CHECK.due("count(1) behind a fault", x.count(1), 0);
        CHECK.due("now(2) behind a fault", x.now(2), 1);
        CHECK.due("count(0) behind a fault", x.count(0), 2);
    }
}
