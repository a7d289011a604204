/** Every number from below the least to above the greatest, and every letter at every place, held against the model. */
public final class SweepTest {
    private static final Check CHECK = new Check();
    /** What an object answers behind its 512th call is free. */
    private static final int CALLS = 400;
    private static final String[] RULES = {
        "", "k1;", "k20;", "k1;k1;", "k5;k3;k7;k2;k6;f1;x3;", "k1;k2;k4;k8;k16;f0;f3;", "k20;k20;k20;k20;x1;f2;",
        "k1;k20;k20;k20;k20;k20;k20;k20;k20;f0;x4;x5;x6;", "k20;k20;k20;k20;k20;k20;k20;k20;k20;x0;x2;x4;x6;",
    };

    private final String text;
    private FoldRule real;
    private Model model;
    private int calls;

    private SweepTest(String text) {
        this.text = text;
        begin();
    }

    public static void main(String[] args) {
        for (String rule : RULES) {
            new SweepTest(rule).numbers();
        }
        lettersAtPlaces("k5 ;k13;f 0;k1; x1;");
        lettersAtPlaces("k1;".repeat(9) + "f7;");
        shortTexts("", 5);
        shortTexts("k2;k3;", 4);
        shortTexts("k2;k3;f0;k4;", 4);
        CHECK.finish();
    }

    // ---- numbers

    private void begin() {
        real = Check.told(text);
        model = new Model();
        for (int i = 0; i < text.length(); i++) {
            model.type(text.charAt(i));
        }
        model.rule();
        calls = text.length() + 1;
    }

    private void due(String call, long got, long want) {
        CHECK.due("'" + text + "': " + call, got, want);
        calls++;
        if (calls >= CALLS) {
            begin();
        }
    }

    private void numbers() {
        for (int n = -184; n <= 184; n++) {
            due("end(" + n + ")", real.end(n), model.end(n));
        }
        for (int n = -2; n <= 183; n++) {
            due("measures(" + n + ")", real.measures(n), model.measures(n));
            for (int what = -1; what <= 3; what++) {
                due("box(" + n + ", " + what + ")", real.box(n, what), model.box(n, what));
            }
        }
        for (int n : new int[] {-1, 0, 1, 2, 7, 19, 20, 21, 40, 60, 80, 140, 160, 179, 180, 181}) {
            for (int x = -1; x <= 11; x++) {
                for (int what = -1; what <= 2; what++) {
                    due("odds(" + x + ", " + n + ", " + what + ")", real.odds(x, n, what), model.odds(x, n, what));
                }
            }
        }
        for (int a = -2; a <= 11; a++) {
            one(a);
            for (int b = -2; b <= 21; b++) {
                two(a, b);
            }
        }
        sightings();
    }

    private void one(int a) {
        due("mark(" + a + ")", real.mark(a), model.mark(a));
        due("now(" + a + ")", real.now(a), model.now(a));
        due("count(" + a + ")", real.count(a), model.count(a));
        due("ways(" + a + ")", real.ways(a), model.ways(a));
        begin();
        due("bends(" + a + ")", real.bends(a), model.bends(a));
        due("now(2) behind bends(" + a + ")", real.now(2), model.now(2));
        due("keep(" + a + ")", real.keep(a), model.keep(a));
        due("back(" + a + ")", real.back(a), model.back(a));
        due("now(7) behind back(" + a + ")", real.now(7), model.now(7));
        begin();
    }

    private void two(int a, int b) {
        due("link(" + a + ", " + b + ")", real.link(a, b), model.link(a, b));
        due("joint(" + a + ", " + b + ")", real.joint(a, b), model.joint(a, b));
        due("rate(" + a + ", " + b + ")", real.rate(a, b), model.rate(a, b));
        begin();
        due("files(" + a + ", " + b + ")", real.files(a, b), model.files(a, b));
        due("now(0) behind files(" + a + ", " + b + ")", real.now(0), model.now(0));
        begin();
    }

    private void sightings() {
        int joints = Math.max(model.count(0) - 1, 0);
        for (int fold = -2; fold <= (1 << joints) + 1; fold++) {
            begin();
            due("sees(" + fold + ", 20)", real.sees(fold, 20), model.sees(fold, 20));
            due("ways(0) behind sees(" + fold + ", 20)", real.ways(0), model.ways(0));
        }
        for (int span = -2; span <= 182; span++) {
            begin();
            due("sees(0, " + span + ")", real.sees(0, span), model.sees(0, span));
            due("ways(0) behind sees(0, " + span + ")", real.ways(0), model.ways(0));
            due("ways(1) behind sees(0, " + span + ")", real.ways(1), model.ways(1));
        }
        begin();
    }

    // ---- letters

    private static void read(String text) {
        FoldRule real = new FoldRule();
        Model model = new Model();
        for (int i = 0; i < text.length(); i++) {
            real.type(text.charAt(i));
            model.type(text.charAt(i));
        }
        CHECK.due("rule() of '" + text + "'", real.rule(), model.rule());
        CHECK.due("links of '" + text + "'", real.count(0), model.count(0));
        CHECK.due("stiff of '" + text + "'", real.count(1), model.count(1));
        CHECK.due("folded of '" + text + "'", real.now(2), model.now(2));
        CHECK.due("span of '" + text + "'", real.now(0), model.now(0));
    }

    /** A sound text with one letter put in, one letter taken for another, one letter less, and its beginnings. */
    private static void lettersAtPlaces(String text) {
        for (int place = 0; place <= text.length(); place++) {
            String before = text.substring(0, place);
            String behind = text.substring(place);
            read(before);
            for (int letter = 0; letter <= 255; letter++) {
                read(before + (char) letter + behind);
                if (!behind.isEmpty()) {
                    read(before + (char) letter + behind.substring(1));
                }
            }
            if (!behind.isEmpty()) {
                read(before + behind.substring(1));
            }
        }
    }

    /** All texts of some letters, up to a length, behind a beginning. */
    private static void shortTexts(String beginning, int more) {
        read(beginning);
        if (more > 0) {
            for (char letter : "kfx0129; ".toCharArray()) {
                shortTexts(beginning + letter, more - 1);
            }
        }
    }
}
