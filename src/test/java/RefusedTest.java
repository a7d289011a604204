import java.util.ArrayList;
import java.util.List;
import java.util.function.Supplier;
import java.util.function.ToLongFunction;

/**
 * "Refused, and nothing changes": each call that is refused, in states that know nothing, something, and as much
 * as can be known; and the calls that only ask. One object hears the call and another like it does not; all that
 * can be got from them is alike behind it.
 */
public final class RefusedTest {
    private static final Check CHECK = new Check();
    private static final int MIN = Integer.MIN_VALUE;
    private static final int MAX = Integer.MAX_VALUE;

    private record Call(String name, ToLongFunction<FoldRule> ask, long due) { }

    private final String name;
    private final Supplier<FoldRule> state;
    private final int links;
    private final int joints;
    private final List<Call> calls = new ArrayList<>();

    private RefusedTest(String name, Supplier<FoldRule> state) {
        this.name = name;
        this.state = state;
        links = state.get().count(0);
        joints = Math.max(links - 1, 0);
    }

    public static void main(String[] args) {
        nothing();
        one();
        full();
        textAtFault();
        CHECK.finish();
    }

    // ---- states

    private static void nothing() {
        RefusedTest test = new RefusedTest("nothing", FoldRule::new);
        test.refuseNumbers();
        test.refuse("bends(0)", x -> x.bends(0), FoldRule.BAD);
        test.refuse("files(0, 1)", x -> x.files(0, 1), FoldRule.BAD);
        test.refuse("turned()", FoldRule::turned, FoldRule.STATE);
        test.refuse("undo()", FoldRule::undo, FoldRule.STATE);
        test.refuse("back(0)", x -> x.back(0), FoldRule.STATE);
        test.refuse("back(1)", x -> x.back(1), FoldRule.STATE);
        test.ask();
        test.go();
    }

    private static FoldRule oneLink() {
        FoldRule x = Check.told("k20;");
        x.files(0, 3);
        x.keep(1);
        x.files(0, 14);
        x.sees(0, 2);
        x.rate(4, 0);
        Check.typeAll(x, "k9;");
        return x;
    }

    private static void one() {
        RefusedTest test = new RefusedTest("one link", RefusedTest::oneLink);
        test.refuseNumbers();
        test.refuse("bends(0)", x -> x.bends(0), FoldRule.BAD);
        test.refuse("files(0, 3)", x -> x.files(0, 3), FoldRule.STATE);
        test.refuse("files(0, 19)", x -> x.files(0, 19), FoldRule.STATE);
        test.refuse("back(0)", x -> x.back(0), FoldRule.STATE);
        test.refuse("sees(1, 3)", x -> x.sees(1, 3), FoldRule.BAD);
        test.ask();
        test.go();
    }

    /** Nine links, more done than can be undone, two images, six that were seen, 90 letters. */
    private static FoldRule fullWith(String text) {
        FoldRule x = Check.told("k20;k19;k18;k4;k2;k3;k4;k5;k6;f1;x3;f5;x7;");
        x.files(0, 1);
        x.bends(0);
        x.keep(0);
        for (int j : new int[] {1, 2, 4, 5}) {
            x.bends(j);
            x.files(j + 1, 1);
        }
        x.turned();
        x.keep(1);
        x.files(8, 2);
        // As if link 2 were 2 less long, so that a way is left which any change of these would lose.
        int[] folds = {0, 2, 4, 8, 128, 138};
        int[] spans = {72, 61, 60, 58, 55, 49};
        for (int i = 0; i < folds.length; i++) {
            x.sees(folds[i], spans[i]);
        }
        x.rate(3, 4);
        Check.typeAll(x, text + " ".repeat(90 - text.length()));
        return x;
    }

    private static FoldRule fullAndSound() {
        return fullWith("k1;k2;k3;f0;x1;");
    }

    private static void full() {
        RefusedTest test = new RefusedTest("full", RefusedTest::fullAndSound);
        FoldRule x = fullAndSound();
        CHECK.due("full: count(0)", x.count(0), 9);
        CHECK.due("full: count(1)", x.count(1), 1 + 16);
        CHECK.due("full: count(2)", x.count(2), 6);
        CHECK.due("full: count(3)", x.count(3), 90);
        CHECK.due("full: now(7)", x.now(7), 10);
        CHECK.due("full: ways(0)", x.ways(0), 1);
        CHECK.due("full: ways(1)", x.ways(1), 22);
        test.refuseNumbers();
        test.refuse("type(32)", y -> y.type(' '), FoldRule.FULL);
        test.refuse("type(0)", y -> y.type(0), FoldRule.FULL);
        test.refuse("type(255)", y -> y.type(255), FoldRule.FULL);
        test.refuse("bends(0), stiff", y -> y.bends(0), FoldRule.STATE);
        test.refuse("bends(4), stiff", y -> y.bends(4), FoldRule.STATE);
        int shortest = x.link(4, 0);
        test.refuse("files(4, as LONG as it is)", y -> y.files(4, shortest), FoldRule.STATE);
        test.refuse("files(4, 19)", y -> y.files(4, 19), FoldRule.STATE);
        test.refuse("sees(0, 30)", y -> y.sees(0, 30), FoldRule.FULL);
        test.refuse("sees(0, 0)", y -> y.sees(0, 0), FoldRule.FULL);
        test.refuse("sees(238, 180)", y -> y.sees(238, 180), FoldRule.FULL);
        test.refuse("sees(1, 30), stiff", y -> y.sees(1, 30), FoldRule.BAD);
        test.refuse("sees(16, 30), stiff", y -> y.sees(16, 30), FoldRule.BAD);
        test.refuse("sees(255, 30), stiff", y -> y.sees(255, 30), FoldRule.BAD);
        test.ask();
        test.go();
    }

    private static void textAtFault() {
        String[] texts = {
            "y", "k", "k0;", "k21;", "k1;k2;f0;x0;", "k1;k2;f1;", "k100;", "k01;", "k1;".repeat(9) + "f0;x7;k1;",
        };
        int[] faults = {0, 90, 1, 1, 10, 7, 1, 1, 33};
        for (int i = 0; i < texts.length; i++) {
            String text = texts[i];
            RefusedTest test = new RefusedTest("'" + text + "'", () -> fullWith(text));
            test.refuse("rule()", FoldRule::rule, -10 - faults[i]);
            test.go();
        }
    }

    // ---- calls

    private void refuse(String call, ToLongFunction<FoldRule> ask, long due) {
        calls.add(new Call(call, ask, due));
    }

    /** What is outside the bounds that the document tells, whatever is known. */
    private void refuseNumbers() {
        for (int letter : new int[] {-1, 256, 256 + 'k', MIN, MAX}) {
            refuse("type(" + letter + ")", x -> x.type(letter), FoldRule.BAD);
        }
        refuseTwo("link", FoldRule::link, 0, links - 1, 0, 1, FoldRule.BAD);
        refuseTwo("joint", FoldRule::joint, 0, joints - 1, 0, 1, FoldRule.BAD);
        refuseOne("mark", FoldRule::mark, 0, links, FoldRule.NO);
        refuseOne("now", FoldRule::now, 0, 7, FoldRule.BAD);
        refuseOne("bends", FoldRule::bends, 0, joints - 1, FoldRule.BAD);
        refuseTwo("files", FoldRule::files, 0, links - 1, 1, 19, FoldRule.BAD);
        refuseTwo("box", FoldRule::box, 1, 180, 0, 2, FoldRule.BAD);
        refuseOne("end", FoldRule::end, -180, 180, FoldRule.BAD);
        refuseOne("measures", FoldRule::measures, 1, 180, FoldRule.BAD);
        refuseTwo("odds by 0", (x, n, what) -> x.odds(0, n, what), 1, 180, 0, 1, FoldRule.BAD);
        refuseTwo("odds upper", (x, of, n) -> x.odds(of, n, 0), 0, 10, 1, 180, FoldRule.BAD);
        refuseTwo("odds lower", (x, of, n) -> x.odds(of, n, 1), 0, 10, 1, 180, FoldRule.BAD);
        refuseTwo("sees", FoldRule::sees, 0, (1 << joints) - 1, 0, 180, FoldRule.BAD);
        refuseOne("ways", FoldRule::ways, 0, 1, FoldRule.BAD);
        refuseTwo("rate", FoldRule::rate, 0, 5, 0, links - 1, FoldRule.NO);
        refuseOne("keep", FoldRule::keep, 0, 1, FoldRule.BAD);
        refuseOne("back", FoldRule::back, 0, 1, FoldRule.BAD);
        refuseOne("count", FoldRule::count, 0, 3, FoldRule.BAD);
    }

    private interface One {
        int ask(FoldRule x, int a);
    }

    private interface Two {
        int ask(FoldRule x, int a, int b);
    }

    /** The shifted ones would be within the bounds, if only their lower bits were looked at. */
    private static int[] outside(int low, int high) {
        return new int[] {low - 1, high + 1, low + 256, low - 512, low + 65536, MIN, MIN + 1, MAX - 1, MAX};
    }

    private void refuseOne(String call, One one, int low, int high, int due) {
        for (int a : outside(low, high)) {
            if (a < low || a > high) {
                refuse(call + "(" + a + ")", x -> one.ask(x, a), due);
            }
        }
    }

    private void refuseTwo(String call, Two two, int low, int high, int lowB, int highB, int due) {
        for (int b : new int[] {lowB, highB}) {
            refuseOne(call + "(.., " + b + ")", (x, a) -> two.ask(x, a, b), low, high, due);
        }
        for (int a : new int[] {low, high}) {
            refuseOne(call + "(" + a + ", ..)", (x, b) -> two.ask(x, a, b), lowB, highB, due);
        }
        refuse(call + " of two that are not as told", x -> two.ask(x, MIN, MAX), due);
    }

    /** "(As things are NOW; nothing is changed.)": what is due is what another object like it answers. */
    private void ask() {
        asks("now(3)", x -> x.now(3));
        asks("now(4)", x -> x.now(4));
        asks("now(6)", x -> x.now(6));
        asks("box(30, 1)", x -> x.box(30, 1));
        asks("box(180, 2)", x -> x.box(180, 2));
        asks("end(0)", x -> x.end(0));
        asks("measures(9)", x -> x.measures(9));
        asks("odds(3, 30, 0)", x -> x.odds(3, 30, 0));
        asks("ways(0)", x -> x.ways(0));
        asks("ways(1)", x -> x.ways(1));
        asks("next()", FoldRule::next);
        asks("link(0, 1)", x -> x.link(0, 1));
        asks("joint(0, 0)", x -> x.joint(0, 0));
        asks("mark(0)", x -> x.mark(0));
        asks("count(3)", x -> x.count(3));
        asks("trace()", FoldRule::trace);
    }

    private void asks(String call, ToLongFunction<FoldRule> ask) {
        refuse(call, ask, ask.applyAsLong(state.get()));
    }

    // ---- what is known behind a call

    private void go() {
        List<List<Long>> before = allOf(null);
        for (Call call : calls) {
            CHECK.due(name + ": " + call.name(), call.ask().applyAsLong(state.get()), call.due());
            CHECK.holds(name + ": nothing has changed behind " + call.name(), allOf(call).equals(before));
        }
    }

    private FoldRule behind(Call call) {
        FoldRule x = state.get();
        if (call != null) {
            call.ask().applyAsLong(x);
        }
        return x;
    }

    /** Each part has an object of its own, as it changes what the others would see. */
    private List<List<Long>> allOf(Call call) {
        List<List<Long>> all = new ArrayList<>();
        all.add(asItIs(behind(call)));
        all.add(undone(behind(call)));
        all.add(broughtBack(behind(call)));
        all.add(read(behind(call)));
        all.add(seen(behind(call)));
        return all;
    }

    private static void strip(FoldRule x, List<Long> known) {
        known.add((long) x.count(0));
        known.add((long) x.count(1));
        known.add((long) x.now(2));
        for (int l = 0; l < x.count(0); l++) {
            known.add((long) x.link(l, 0));
        }
    }

    private static List<Long> asItIs(FoldRule x) {
        List<Long> known = new ArrayList<>();
        strip(x, known);
        for (int what = 0; what <= 7; what++) {
            known.add((long) x.now(what));
        }
        for (int what = 0; what <= 3; what++) {
            known.add((long) x.count(what));
        }
        for (int l = 0; l <= 9; l++) {
            known.add((long) x.link(l, 1));
            known.add((long) x.joint(l, 0));
            known.add((long) x.joint(l, 1));
            known.add((long) x.mark(l));
        }
        known.add((long) x.box(40, 0));
        known.add((long) x.odds(3, 40, 0));
        known.add((long) x.ways(0));
        known.add((long) x.ways(1));
        known.add((long) x.next());
        known.add(x.trace());
        return known;
    }

    private static List<Long> undone(FoldRule x) {
        List<Long> known = new ArrayList<>();
        for (int i = 0; i <= 10; i++) {
            known.add((long) x.undo());
            strip(x, known);
        }
        return known;
    }

    private static List<Long> broughtBack(FoldRule x) {
        List<Long> known = new ArrayList<>();
        for (int image = 0; image <= 1; image++) {
            known.add((long) x.back(image));
            strip(x, known);
        }
        return known;
    }

    /** What the letters are shows when they are read. */
    private static List<Long> read(FoldRule x) {
        List<Long> known = new ArrayList<>();
        known.add((long) x.rule());
        strip(x, known);
        known.add((long) x.clear());
        return known;
    }

    /** What was seen last, and how much, shows in how much more can be. */
    private static List<Long> seen(FoldRule x) {
        List<Long> known = new ArrayList<>();
        for (int span = 1; span <= 3; span++) {
            known.add((long) x.sees(0, span));
            known.add((long) x.ways(0));
            known.add((long) x.ways(1));
        }
        known.add((long) x.forget());
        known.add((long) x.ways(0));
        return known;
    }
}
