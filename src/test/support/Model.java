import java.math.BigInteger;
import java.util.ArrayDeque;
import java.util.ArrayList;
import java.util.Collections;
import java.util.Comparator;
import java.util.HashMap;
import java.util.HashSet;
import java.util.List;
import java.util.Map;
import java.util.Set;
import java.util.TreeMap;
import java.util.TreeSet;
import java.util.regex.Matcher;
import java.util.regex.Pattern;

/** The document once more, written with the Java library and in another way, to be held against the class. */
public final class Model {
    private static final int BAD = -1, STATE = -2, FULL = -3, NONE = -9, NO = -1000000;
    private static final Pattern TOKEN = Pattern.compile(" +|[0-9]+|[^ 0-9]", Pattern.DOTALL);

    /** Links and joints; never changed once made. */
    private record Piece(List<Integer> lengths, Set<Integer> folded, Set<Integer> stiff) {
        int joints() {
            return lengths.isEmpty() ? 0 : lengths.size() - 1;
        }
    }

    private static final Piece NOTHING = new Piece(List.of(), Set.of(), Set.of());

    private String text = "";
    private Piece piece = NOTHING;
    private final ArrayDeque<Piece> before = new ArrayDeque<>();
    private final Map<Integer, Piece> images = new HashMap<>();
    private final List<int[]> seen = new ArrayList<>();
    private long traced;

    public int type(int letter) {
        if (letter < 0 || letter > 255) {
            return BAD;
        }
        if (text.length() == 90) {
            return FULL;
        }
        text += (char) letter;
        return text.length();
    }

    public int clear() {
        int had = text.length();
        text = "";
        return had;
    }

    public int rule() {
        List<Integer> lengths = new ArrayList<>();
        Set<Integer> folded = new HashSet<>();
        Set<Integer> stiff = new HashSet<>();
        int items = 0;
        String due = "head";
        String head = "";
        Matcher tokens = TOKEN.matcher(text);
        while (tokens.find()) {
            String token = tokens.group();
            if (token.startsWith(" ")) {
                continue;
            }
            boolean fits;
            if (due.equals("head")) {
                fits = token.equals("f") || token.equals("x") || token.equals("k") && lengths.size() < 9;
                head = token;
                due = "number";
            } else if (due.equals("number")) {
                fits = token.matches("0|[1-9][0-9]?");
                if (fits) {
                    int number = Integer.parseInt(token);
                    if (head.equals("k")) {
                        fits = number >= 1 && number <= 20;
                        lengths.add(number);
                    } else {
                        fits = number + 2 <= lengths.size()
                                && !folded.contains(number) && !stiff.contains(number);
                        (head.equals("f") ? folded : stiff).add(number);
                    }
                }
                due = "stop";
            } else {
                fits = token.equals(";");
                due = "head";
                items++;
            }
            if (!fits) {
                return -10 - tokens.start();
            }
        }
        if (!due.equals("head")) {
            return -10 - text.length();
        }
        text = "";
        piece = new Piece(lengths, folded, stiff);
        before.clear();
        images.clear();
        seen.clear();
        return items;
    }

    private static List<Integer> places(List<Integer> lengths, Set<Integer> folded) {
        List<Integer> places = new ArrayList<>(List.of(0));
        for (int l = 0; l < lengths.size(); l++) {
            int upTo = l;
            long turns = folded.stream().filter(j -> j < upTo).count();
            places.add(places.get(l) + (turns % 2 == 0 ? lengths.get(l) : -lengths.get(l)));
        }
        return places;
    }

    private static int spanOf(List<Integer> places) {
        return Collections.max(places) - Collections.min(places);
    }

    private static int endOf(List<Integer> places) {
        return places.get(places.size() - 1);
    }

    private List<Integer> placesNow() {
        return places(piece.lengths(), piece.folded());
    }

    /** The cells, by their lower whole number, that a link lies over. */
    private static Set<Integer> cells(List<Integer> places, int l) {
        Set<Integer> cells = new TreeSet<>();
        for (int at = Math.min(places.get(l), places.get(l + 1));
                at < Math.max(places.get(l), places.get(l + 1)); at++) {
            cells.add(at);
        }
        return cells;
    }

    private int stackNow() {
        Map<Integer, Integer> over = new TreeMap<>();
        for (int l = 0; l < piece.lengths().size(); l++) {
            cells(placesNow(), l).forEach(cell -> over.merge(cell, 1, Integer::sum));
        }
        return over.values().stream().max(Comparator.naturalOrder()).orElse(0);
    }

    private boolean isLink(int l) {
        return l >= 0 && l < piece.lengths().size();
    }

    private boolean isJoint(int j) {
        return j >= 0 && j < piece.joints();
    }

    public int link(int l, int what) {
        if (!isLink(l) || what < 0 || what > 1) {
            return BAD;
        }
        if (what == 0) {
            return piece.lengths().get(l);
        }
        int others = 0;
        for (int other = 0; other < piece.lengths().size(); other++) {
            if (other != l && !Collections.disjoint(cells(placesNow(), l), cells(placesNow(), other))) {
                others++;
            }
        }
        return others;
    }

    public int joint(int j, int what) {
        if (!isJoint(j) || what < 0 || what > 1) {
            return BAD;
        }
        return (what == 0 ? piece.folded() : piece.stiff()).contains(j) ? 1 : 0;
    }

    public int mark(int m) {
        return m < 0 || m > piece.lengths().size() ? NO : placesNow().get(m);
    }

    private static Set<Integer> setOf(int bits) {
        Set<Integer> set = new TreeSet<>();
        for (int j = 0; j < 31; j++) {
            if ((bits >> j) % 2 == 1) {
                set.add(j);
            }
        }
        return set;
    }

    private static int bitsOf(Set<Integer> set) {
        return set.stream().mapToInt(j -> 1 << j).sum();
    }

    private boolean isFold(int fold) {
        if (fold < 0 || fold >= 1 << piece.joints()) {
            return false;
        }
        Set<Integer> set = setOf(fold);
        return piece.stiff().stream().allMatch(j -> set.contains(j) == piece.folded().contains(j));
    }

    private List<Integer> allFolds() {
        List<Integer> folds = new ArrayList<>();
        for (int fold = 0; fold < 1 << piece.joints(); fold++) {
            if (isFold(fold)) {
                folds.add(fold);
            }
        }
        return folds;
    }

    private List<Integer> placesOf(int fold) {
        return places(piece.lengths(), setOf(fold));
    }

    private Set<Integer> measured() {
        Set<Integer> measured = new TreeSet<>();
        for (int fold : allFolds()) {
            for (int a : placesOf(fold)) {
                for (int b : placesOf(fold)) {
                    measured.add(a - b);
                }
            }
        }
        return measured;
    }

    public int now(int what) {
        switch (what) {
            case 0:
                return spanOf(placesNow());
            case 1:
                return stackNow();
            case 2:
                return bitsOf(piece.folded());
            case 3:
                return allFolds().stream().mapToInt(f -> spanOf(placesOf(f))).min().getAsInt();
            case 4:
                int least = now(3);
                return allFolds().stream().filter(f -> spanOf(placesOf(f)) == least).findFirst().get();
            case 5:
                return allFolds().stream().mapToInt(f -> endOf(placesOf(f))).max().getAsInt();
            case 6:
                Set<Integer> measured = measured();
                int n = 1;
                while (measured.contains(n)) {
                    n++;
                }
                return n;
            case 7:
                return before.size();
            default:
                return BAD;
        }
    }

    private void become(Piece other) {
        before.addLast(piece);
        if (before.size() > 10) {
            before.removeFirst();
        }
        piece = other;
    }

    public int bends(int j) {
        if (!isJoint(j)) {
            return BAD;
        }
        if (piece.stiff().contains(j)) {
            return STATE;
        }
        Set<Integer> folded = new HashSet<>(piece.folded());
        if (!folded.remove(j)) {
            folded.add(j);
        }
        become(new Piece(piece.lengths(), folded, piece.stiff()));
        return now(0);
    }

    private List<Integer> filed(int l, int k) {
        List<Integer> lengths = new ArrayList<>(piece.lengths());
        lengths.set(l, lengths.get(l) - k);
        return lengths;
    }

    public int files(int l, int k) {
        if (!isLink(l) || k < 1 || k > 19) {
            return BAD;
        }
        if (piece.lengths().get(l) <= k) {
            return STATE;
        }
        become(new Piece(filed(l, k), piece.folded(), piece.stiff()));
        return piece.lengths().get(l);
    }

    private Set<Integer> mirrored(Set<Integer> joints) {
        Set<Integer> other = new HashSet<>();
        joints.forEach(j -> other.add(piece.joints() - 1 - j));
        return other;
    }

    public int turned() {
        if (piece.lengths().isEmpty()) {
            return STATE;
        }
        List<Integer> lengths = new ArrayList<>(piece.lengths());
        Collections.reverse(lengths);
        become(new Piece(lengths, mirrored(piece.folded()), mirrored(piece.stiff())));
        return now(2);
    }

    public int undo() {
        if (before.isEmpty()) {
            return STATE;
        }
        piece = before.removeLast();
        return before.size();
    }

    private int bent(int fold) {
        Set<Integer> differing = setOf(fold);
        for (int j : piece.folded()) {
            if (!differing.remove(j)) {
                differing.add(j);
            }
        }
        return differing.size();
    }

    private int nearest(List<Integer> folds) {
        return folds.stream()
                .min(Comparator.comparing(this::bent).thenComparing(Comparator.naturalOrder()))
                .orElse(NONE);
    }

    private List<Integer> boxed(int n) {
        List<Integer> folds = allFolds();
        folds.removeIf(f -> spanOf(placesOf(f)) > n);
        return folds;
    }

    public int box(int n, int what) {
        if (n < 1 || n > 180 || what < 0 || what > 2) {
            return BAD;
        }
        List<Integer> folds = boxed(n);
        if (what == 0) {
            return folds.size();
        }
        int which = nearest(folds);
        return what == 1 || which == NONE ? which : bent(which);
    }

    public int end(int n) {
        if (n < -180 || n > 180) {
            return BAD;
        }
        List<Integer> folds = allFolds();
        folds.removeIf(f -> endOf(placesOf(f)) != n);
        return nearest(folds);
    }

    public int measures(int n) {
        return n < 1 || n > 180 ? BAD : measured().contains(n) ? 1 : 0;
    }

    public int odds(int x, int n, int what) {
        if (x < 0 || x > 10 || n < 1 || n > 180 || what < 0 || what > 1) {
            return BAD;
        }
        BigInteger upper = BigInteger.ZERO;
        BigInteger lower = BigInteger.TEN.pow(piece.joints() - piece.stiff().size());
        for (int fold : boxed(n)) {
            BigInteger one = BigInteger.ONE;
            for (int j = 0; j < piece.joints(); j++) {
                if (!piece.stiff().contains(j)) {
                    one = one.multiply(BigInteger.valueOf(setOf(fold).contains(j) ? x : 10 - x));
                }
            }
            upper = upper.add(one);
        }
        return (what == 0 ? upper : lower).divide(upper.gcd(lower)).intValueExact();
    }

    public int sees(int fold, int span) {
        if (!isFold(fold) || span < 0 || span > 180) {
            return BAD;
        }
        if (seen.size() == 6) {
            return FULL;
        }
        seen.add(new int[] {fold, span});
        return seen.size();
    }

    public int forget() {
        int had = seen.size();
        seen.clear();
        return had;
    }

    private List<Integer> allWays() {
        List<Integer> found = new ArrayList<>();
        for (int l = 0; l < piece.lengths().size(); l++) {
            for (int k = 1; k <= 9 && k < piece.lengths().get(l); k++) {
                List<Integer> lengths = filed(l, k);
                if (seen.stream().allMatch(s -> spanOf(places(lengths, setOf(s[0]))) == s[1])) {
                    found.add(10 * l + k);
                }
            }
        }
        return found;
    }

    public int ways(int what) {
        if (what < 0 || what > 1) {
            return BAD;
        }
        List<Integer> found = allWays();
        return what == 0 ? found.size() : found.isEmpty() ? NONE : found.get(0);
    }

    private int largestGroup(int fold, List<Integer> found) {
        Map<Integer, Integer> groups = new HashMap<>();
        Set<Integer> folded = setOf(fold);
        for (int way : found) {
            groups.merge(spanOf(places(filed(way / 10, way % 10), folded)), 1, Integer::sum);
        }
        return Collections.max(groups.values());
    }

    public int next() {
        List<Integer> found = allWays();
        if (found.size() < 2) {
            return NONE;
        }
        Map<Integer, Integer> first = new TreeMap<>();
        for (int fold : allFolds()) {
            first.putIfAbsent(largestGroup(fold, found), fold);
        }
        return first.values().iterator().next();
    }

    public int rate(int kind, int l) {
        if (kind < 0 || kind > 5 || !isLink(l)) {
            return NO;
        }
        int length = piece.lengths().get(l);
        int first = placesNow().get(l);
        traced += new long[] {1, 11, 101, 1011, 10101, 100001}[kind];
        return new int[] {length, length + first, length - now(0), 2 * (length + first),
            length - now(0) + l, length + stackNow()}[kind];
    }

    public int keep(int image) {
        if (image < 0 || image > 1) {
            return BAD;
        }
        images.put(image, piece);
        return now(0);
    }

    public int back(int image) {
        if (image < 0 || image > 1) {
            return BAD;
        }
        if (!images.containsKey(image)) {
            return STATE;
        }
        piece = images.get(image);
        before.clear();
        return now(0);
    }

    public int count(int what) {
        switch (what) {
            case 0:
                return piece.lengths().size();
            case 1:
                return bitsOf(piece.stiff());
            case 2:
                return seen.size();
            case 3:
                return text.length();
            default:
                return BAD;
        }
    }

    public long trace() {
        return traced;
    }
}
