import java.util.ArrayDeque;
import java.util.Random;

/** Many runs of calls by chance (the same each time), each answer held against the model's. */
public final class AgainstModelTest {
    private static final Check CHECK = new Check();
    private static final int RUNS = 150;
    /** What an object answers behind its 512th call is free. */
    private static final int CALLS = 512;
    private static final int[] WILD = {Integer.MIN_VALUE, Integer.MAX_VALUE, -1, 31, 32, 33, 256, 1000};

    private final Random chance;
    private final int run;
    private final FoldRule real = new FoldRule();
    private final Model model = new Model();
    private final ArrayDeque<Integer> letters = new ArrayDeque<>();
    private int calls;

    private AgainstModelTest(int run) {
        this.run = run;
        chance = new Random(run);
    }

    public static void main(String[] args) {
        for (int run = 0; run < RUNS && CHECK.wrongSoFar() < 20; run++) {
            new AgainstModelTest(run).go();
        }
        CHECK.finish();
    }

    private void go() {
        while (calls + 12 <= CALLS && CHECK.wrongSoFar() < 20) {
            if (!letters.isEmpty()) {
                int letter = letters.removeFirst();
                due("type(" + letter + ")", real.type(letter), model.type(letter));
            } else if (chance.nextInt(120) == 0 || calls == 0) {
                due("clear()", real.clear(), model.clear());
                plan(chance.nextInt(4) == 0 ? spoiled(text()) : text());
            } else if (model.count(3) > 0 && chance.nextInt(3) > 0) {
                due("rule()", real.rule(), model.rule());
            } else {
                ask();
            }
        }
    }

    private void due(String call, long got, long want) {
        calls++;
        CHECK.due("run " + run + ": " + call, got, want);
    }

    private void plan(String text) {
        for (int i = 0; i < text.length(); i++) {
            letters.add((int) text.charAt(i));
        }
    }

    private String text() {
        StringBuilder text = new StringBuilder();
        int links = chance.nextInt(10);
        int most = chance.nextBoolean() ? 20 : 4;
        for (int l = 0; l < links; l++) {
            text.append('k').append(1 + chance.nextInt(most)).append(blanks()).append(';');
        }
        for (int j = 0; j + 1 < links; j++) {
            int how = chance.nextInt(4);
            if (how < 2) {
                text.append(how == 0 ? 'f' : 'x').append(blanks()).append(j).append(';');
            }
        }
        return text.toString();
    }

    private String blanks() {
        return " ".repeat(chance.nextInt(8) == 0 ? 1 + chance.nextInt(2) : 0);
    }

    private String spoiled(String text) {
        StringBuilder spoiled = new StringBuilder(text);
        String signs = "kfx;0123456789 y";
        for (int i = 0; i <= chance.nextInt(3); i++) {
            int place = chance.nextInt(spoiled.length() + 1);
            char sign = signs.charAt(chance.nextInt(signs.length()));
            if (place == spoiled.length() || chance.nextBoolean()) {
                spoiled.insert(place, sign);
            } else if (chance.nextBoolean()) {
                spoiled.setCharAt(place, sign);
            } else {
                spoiled.deleteCharAt(place);
            }
        }
        return spoiled.toString();
    }

    /** Mostly from low to high, at times just beyond, seldom far away. */
    private int number(int low, int high) {
        int how = chance.nextInt(40);
        if (how == 0) {
            return WILD[chance.nextInt(WILD.length)];
        }
        return how < 3 ? (how == 1 ? low - 1 : high + 1) : low + chance.nextInt(high - low + 1);
    }

    private int linkNumber() {
        return number(0, Math.max(model.count(0) - 1, 0));
    }

    private int jointNumber() {
        return number(0, Math.max(model.count(0) - 2, 0));
    }

    private int span() {
        return chance.nextInt(4) == 0 ? number(1, 180) : Math.min(180, Math.max(1, model.now(0) + number(-9, 9)));
    }

    private int fold() {
        int some = number(0, (1 << Math.max(model.count(0) - 1, 0)) - 1);
        return chance.nextInt(6) == 0 ? some : some & ~model.count(1);
    }

    private void ask() {
        int a;
        int b;
        int c;
        switch (chance.nextInt(26)) {
            case 0:
                a = linkNumber();
                b = number(0, 1);
                due("link(" + a + ", " + b + ")", real.link(a, b), model.link(a, b));
                break;
            case 1:
                a = jointNumber();
                b = number(0, 1);
                due("joint(" + a + ", " + b + ")", real.joint(a, b), model.joint(a, b));
                break;
            case 2:
                a = number(0, model.count(0));
                due("mark(" + a + ")", real.mark(a), model.mark(a));
                break;
            case 3:
            case 4:
                a = number(0, 7);
                due("now(" + a + ")", real.now(a), model.now(a));
                break;
            case 5:
            case 6:
                a = jointNumber();
                due("bends(" + a + ")", real.bends(a), model.bends(a));
                break;
            case 7:
                a = linkNumber();
                b = chance.nextInt(3) == 0 ? number(1, 19) : number(1, 3);
                due("files(" + a + ", " + b + ")", real.files(a, b), model.files(a, b));
                break;
            case 8:
                due("turned()", real.turned(), model.turned());
                break;
            case 9:
                a = chance.nextInt(8) == 0 ? 12 : 1;
                for (int i = 0; i < a; i++) {
                    due("undo()", real.undo(), model.undo());
                }
                break;
            case 10:
            case 11:
                a = span();
                b = number(0, 2);
                due("box(" + a + ", " + b + ")", real.box(a, b), model.box(a, b));
                break;
            case 12:
                a = chance.nextInt(4) == 0 ? number(-180, 180) : number(-40, 40);
                due("end(" + a + ")", real.end(a), model.end(a));
                break;
            case 13:
                a = span();
                due("measures(" + a + ")", real.measures(a), model.measures(a));
                break;
            case 14:
                a = number(0, 10);
                b = span();
                c = number(0, 1);
                due("odds(" + a + ", " + b + ", " + c + ")", real.odds(a, b, c), model.odds(a, b, c));
                break;
            case 15:
            case 16:
                seeSome();
                break;
            case 17:
                due("forget()", real.forget(), model.forget());
                break;
            case 18:
                a = number(0, 1);
                due("ways(" + a + ")", real.ways(a), model.ways(a));
                break;
            case 19:
                due("next()", real.next(), model.next());
                break;
            case 20:
            case 21:
                a = number(0, 5);
                b = linkNumber();
                due("rate(" + a + ", " + b + ")", real.rate(a, b), model.rate(a, b));
                break;
            case 22:
                a = number(0, 1);
                due("keep(" + a + ")", real.keep(a), model.keep(a));
                break;
            case 23:
                a = number(0, 1);
                due("back(" + a + ")", real.back(a), model.back(a));
                break;
            case 24:
                a = number(0, 3);
                due("count(" + a + ")", real.count(a), model.count(a));
                break;
            default:
                due("trace()", real.trace(), model.trace());
                break;
        }
    }

    /** Spans near the ones that are so, that some ways may be left. */
    private void seeSome() {
        int fold = fold();
        int span = chance.nextInt(8) == 0 ? number(0, 180) : number(0, 9);
        int near = model.now(3) + span;
        int seen = chance.nextBoolean() ? span : near;
        due("sees(" + fold + ", " + seen + ")", real.sees(fold, seen), model.sees(fold, seen));
        due("ways(0)", real.ways(0), model.ways(0));
        due("next()", real.next(), model.next());
    }
}
