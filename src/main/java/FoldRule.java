/**
 * A folding rule: links of unlike lengths joined end to end, laid on a line.
 * The words in capitals are those of the document.
 */
public final class FoldRule {
    public static final int BAD = -1, STATE = -2, FULL = -3, NONE = -9;
    public static final int NO = -1000000;

    private static final int MAX_LINKS = 9;
    private static final int MAX_LONG = 20;
    private static final int MAX_SPAN = 180;
    private static final int MAX_LETTERS = 90;
    private static final int MAX_LETTER = 255;
    private static final int MAX_FILED = 19;
    private static final int MAX_UNDONE = 10;
    private static final int MAX_SEEN = 6;
    private static final int IMAGES = 2;

    private final Text text = new Text();
    private final Strip strip = new Strip();
    private final Strip told = new Strip();
    private final Strip[] images = {new Strip(), new Strip()};
    private final boolean[] kept = new boolean[IMAGES];
    private final History history = new History();
    private final Lay lay = new Lay();
    private final Folds folds = new Folds();
    private final Sightings sightings = new Sightings();
    private final Rater rater = new Rater();

    public FoldRule() {
    }

    // ---- the rule

    public int type(int letter) {
        if (!isWithin(letter, 0, MAX_LETTER)) {
            return BAD;
        }
        if (text.isFull()) {
            return FULL;
        }
        text.append(letter);
        return text.size;
    }

    public int clear() {
        int had = text.size;
        text.makeEmpty();
        return had;
    }

    public int rule() {
        int fault = text.readInto(told);
        if (fault != Text.SOUND) {
            return -10 - fault;
        }
        strip.copyFrom(told);
        history.loseAll();
        sightings.loseAll();
        for (int i = 0; i < IMAGES; i++) {
            kept[i] = false;
        }
        text.makeEmpty();
        return text.items;
    }

    public int link(int l, int what) {
        if (!strip.hasLink(l)) {
            return BAD;
        }
        switch (what) {
            case 0:
                return strip.lengthOf(l);
            case 1:
                return layNow().othersOver(l);
            default:
                return BAD;
        }
    }

    public int joint(int j, int what) {
        if (!strip.hasJoint(j)) {
            return BAD;
        }
        switch (what) {
            case 0:
                return hasBit(strip.folded, j) ? 1 : 0;
            case 1:
                return hasBit(strip.stiff, j) ? 1 : 0;
            default:
                return BAD;
        }
    }

    public int mark(int m) {
        if (!isWithin(m, 0, strip.links)) {
            return NO;
        }
        return layNow().placeOf(m);
    }

    public int now(int what) {
        switch (what) {
            case 0:
                return spanNow();
            case 1:
                return layNow().stack();
            case 2:
                return strip.folded;
            case 3:
                return folds.leastSpan(strip);
            case 4:
                return folds.leastFold(strip);
            case 5:
                return folds.greatestEnd(strip);
            case 6:
                return folds.gap(strip);
            case 7:
                return history.size;
            default:
                return BAD;
        }
    }

    // ---- what is done

    public int bends(int j) {
        if (!strip.hasJoint(j)) {
            return BAD;
        }
        if (hasBit(strip.stiff, j)) {
            return STATE;
        }
        history.remember(strip);
        strip.bend(j);
        return spanNow();
    }

    public int files(int l, int k) {
        if (!strip.hasLink(l) || !isWithin(k, 1, MAX_FILED)) {
            return BAD;
        }
        if (!strip.canFile(l, k)) {
            return STATE;
        }
        history.remember(strip);
        strip.file(l, k);
        return strip.lengthOf(l);
    }

    public int turned() {
        if (strip.links == 0) {
            return STATE;
        }
        history.remember(strip);
        strip.turnAbout();
        return strip.folded;
    }

    public int undo() {
        if (history.size == 0) {
            return STATE;
        }
        history.restore(strip);
        return history.size;
    }

    // ---- folds

    public int box(int n, int what) {
        if (!isWithin(n, 1, MAX_SPAN)) {
            return BAD;
        }
        switch (what) {
            case 0:
                return folds.howManyGoInto(strip, n);
            case 1:
                return folds.nearestFold(strip, n, false);
            case 2:
                return bentBy(folds.nearestFold(strip, n, false));
            default:
                return BAD;
        }
    }

    public int end(int n) {
        if (!isWithin(n, -MAX_SPAN, MAX_SPAN)) {
            return BAD;
        }
        return folds.nearestFold(strip, n, true);
    }

    public int measures(int n) {
        if (!isWithin(n, 1, MAX_SPAN)) {
            return BAD;
        }
        return folds.canMeasure(strip, n) ? 1 : 0;
    }

    public int odds(int x, int n, int what) {
        if (!isWithin(x, 0, 10) || !isWithin(n, 1, MAX_SPAN) || !isWithin(what, 0, 1)) {
            return BAD;
        }
        int upper = folds.weightInto(strip, x, n);
        int lower = power(10, strip.freeJoints());
        int divisor = commonDivisor(upper, lower);
        return (what == 0 ? upper : lower) / divisor;
    }

    // ---- which link was filed

    public int sees(int fold, int span) {
        if (!strip.isFold(fold) || !isWithin(span, 0, MAX_SPAN)) {
            return BAD;
        }
        if (sightings.isFull()) {
            return FULL;
        }
        sightings.note(fold, span);
        return sightings.size;
    }

    public int forget() {
        int had = sightings.size;
        sightings.loseAll();
        return had;
    }

    public int ways(int what) {
        switch (what) {
            case 0:
                return sightings.findWays(strip);
            case 1:
                return sightings.firstWay(strip);
            default:
                return BAD;
        }
    }

    public int next() {
        return sightings.bestTry(strip);
    }

    // ---- kinds, images

    public int rate(int kind, int l) {
        if (!isWithin(kind, Rater.LINK, Rater.IVORY) || !strip.hasLink(l)) {
            return NO;
        }
        return rater.rateAs(kind, strip, layNow(), l);
    }

    public int keep(int image) {
        if (!isWithin(image, 0, IMAGES - 1)) {
            return BAD;
        }
        images[image].copyFrom(strip);
        kept[image] = true;
        return spanNow();
    }

    public int back(int image) {
        if (!isWithin(image, 0, IMAGES - 1)) {
            return BAD;
        }
        if (!kept[image]) {
            return STATE;
        }
        strip.copyFrom(images[image]);
        history.loseAll();
        return spanNow();
    }

    public int count(int what) {
        switch (what) {
            case 0:
                return strip.links;
            case 1:
                return strip.stiff;
            case 2:
                return sightings.size;
            case 3:
                return text.size;
            default:
                return BAD;
        }
    }

    public long trace() {
        return rater.traced;
    }

    // ---- helpers

    private Lay layNow() {
        lay.layOut(strip, strip.folded);
        return lay;
    }

    private int spanNow() {
        return layNow().span();
    }

    private int bentBy(int fold) {
        return fold == NONE ? NONE : Integer.bitCount(fold ^ strip.folded);
    }

    private static boolean isWithin(int number, int least, int most) {
        return number >= least && number <= most;
    }

    private static boolean hasBit(int bits, int place) {
        return ((bits >> place) & 1) == 1;
    }

    private static int power(int base, int exponent) {
        int product = 1;
        for (int i = 0; i < exponent; i++) {
            product *= base;
        }
        return product;
    }

    /** At least 1, so that it can always divide. */
    private static int commonDivisor(int a, int b) {
        int large = a;
        int small = b;
        // Numbers of 31 bits need fewer than 64 steps.
        for (int step = 0; step < 64 && small != 0; step++) {
            int rest = large % small;
            large = small;
            small = rest;
        }
        return Math.max(large, 1);
    }

    /** LINKS and JOINTS: what a text tells, an IMAGE keeps, and undo() brings back. */
    private static final class Strip {
        private final int[] lengths = new int[MAX_LINKS];
        private int links;
        private int folded;
        private int stiff;

        void makeEmpty() {
            links = 0;
            folded = 0;
            stiff = 0;
        }

        void copyFrom(Strip other) {
            for (int l = 0; l < MAX_LINKS; l++) {
                lengths[l] = other.lengths[l];
            }
            links = other.links;
            folded = other.folded;
            stiff = other.stiff;
        }

        boolean isFull() {
            return links >= MAX_LINKS;
        }

        void addLink(int length) {
            if (!isFull()) {
                lengths[links] = length;
                links++;
            }
        }

        boolean hasLink(int l) {
            return l >= 0 && l < links;
        }

        int lengthOf(int l) {
            return hasLink(l) ? lengths[l] : 0;
        }

        int joints() {
            return Math.max(links - 1, 0);
        }

        int freeJoints() {
            return joints() - Integer.bitCount(stiff);
        }

        boolean hasJoint(int j) {
            return j >= 0 && j < joints();
        }

        boolean canFile(int l, int k) {
            return lengthOf(l) - k >= 1;
        }

        void file(int l, int k) {
            if (hasLink(l)) {
                lengths[l] -= k;
            }
        }

        void bend(int j) {
            folded ^= 1 << j;
        }

        void turnAbout() {
            for (int low = 0, high = links - 1; low < high; low++, high--) {
                int length = lengths[low];
                lengths[low] = lengths[high];
                lengths[high] = length;
            }
            folded = inOtherOrder(folded);
            stiff = inOtherOrder(stiff);
        }

        private int inOtherOrder(int bits) {
            int other = 0;
            for (int j = 0; j < joints(); j++) {
                other = other << 1 | (bits >> j & 1);
            }
            return other;
        }

        /** All FOLDS are below it. */
        int foldLimit() {
            return 1 << joints();
        }

        boolean isFold(int fold) {
            return fold >= 0 && fold < foldLimit() && ((fold ^ folded) & stiff) == 0;
        }
    }

    /** THE TEXT, and how it is read. */
    private static final class Text {
        private static final int SOUND = -1;
        private static final int MAX_NUMBER = 99;

        private final int[] letters = new int[MAX_LETTERS];
        private int size;
        private int place;
        private int items;

        boolean isFull() {
            return size >= MAX_LETTERS;
        }

        void append(int letter) {
            if (!isFull()) {
                letters[size] = letter;
                size++;
            }
        }

        void makeEmpty() {
            size = 0;
        }

        /** The FAULT, or SOUND. */
        int readInto(Strip told) {
            told.makeEmpty();
            place = 0;
            items = 0;
            // An item takes a letter at least.
            for (int turn = 0; turn <= MAX_LETTERS; turn++) {
                skipBlanks();
                if (place >= size) {
                    return SOUND;
                }
                int fault = readItem(told);
                if (fault != SOUND) {
                    return fault;
                }
                items++;
            }
            return SOUND;
        }

        /** At the text's end the place is its length, which is the FAULT that is due there. */
        private int readItem(Strip told) {
            int head = letterHere();
            if (!canBegin(head, told)) {
                return place;
            }
            place++;
            skipBlanks();
            int numberPlace = place;
            int number = readNumber();
            if (!canStand(head, number, told)) {
                return numberPlace;
            }
            skipBlanks();
            if (letterHere() != ';') {
                return place;
            }
            place++;
            tell(head, number, told);
            return SOUND;
        }

        private static boolean canBegin(int head, Strip told) {
            return head == 'k' ? !told.isFull() : head == 'f' || head == 'x';
        }

        private static boolean canStand(int head, int number, Strip told) {
            if (head == 'k') {
                return isWithin(number, 1, MAX_LONG);
            }
            return told.hasJoint(number) && !hasBit(told.folded | told.stiff, number);
        }

        private static void tell(int head, int number, Strip told) {
            if (head == 'k') {
                told.addLink(number);
            } else if (head == 'f') {
                told.folded |= 1 << number;
            } else {
                told.stiff |= 1 << number;
            }
        }

        private int letterHere() {
            return place >= 0 && place < size ? letters[place] : NONE;
        }

        private void skipBlanks() {
            while (place < size && letterHere() == ' ') {
                place++;
            }
        }

        private boolean isDigitHere() {
            return isWithin(letterHere(), '0', '9');
        }

        /** NONE, if there is no NUMBER as it must be. */
        private int readNumber() {
            int first = letterHere();
            int digits = 0;
            int number = 0;
            while (place < size && isDigitHere()) {
                // It stays small however many digits come.
                number = Math.min(number * 10 + letterHere() - '0', MAX_NUMBER + 1);
                digits++;
                place++;
            }
            boolean isAsTold = digits > 0 && number <= MAX_NUMBER && (first != '0' || digits == 1);
            return isAsTold ? number : NONE;
        }
    }

    /** What can be UNDONE: how things were ahead of each of the latest changes. */
    private static final class History {
        private final Strip[] steps = new Strip[MAX_UNDONE];
        private int slot;
        private int size;

        History() {
            for (int i = 0; i < MAX_UNDONE; i++) {
                steps[i] = new Strip();
            }
        }

        void loseAll() {
            size = 0;
        }

        void remember(Strip strip) {
            steps[slot].copyFrom(strip);
            slot = (slot + 1) % MAX_UNDONE;
            size = Math.min(size + 1, MAX_UNDONE);
        }

        void restore(Strip strip) {
            if (size > 0) {
                slot = (slot + MAX_UNDONE - 1) % MAX_UNDONE;
                size--;
                strip.copyFrom(steps[slot]);
            }
        }
    }

    /** Where the MARKS lie, when a strip is folded in some way. */
    private static final class Lay {
        private final int[] places = new int[MAX_LINKS + 1];
        private int links;
        private int low;
        private int high;

        void layOut(Strip strip, int fold) {
            layOutFiled(strip, fold, NONE, 0);
        }

        /** As if one LINK were less LONG. */
        void layOutFiled(Strip strip, int fold, int filed, int less) {
            links = Math.min(strip.links, MAX_LINKS);
            low = 0;
            high = 0;
            int place = 0;
            int way = 1;
            for (int l = 0; l < links; l++) {
                int length = l == filed ? strip.lengths[l] - less : strip.lengths[l];
                place += way * length;
                places[l + 1] = place;
                low = Math.min(low, place);
                high = Math.max(high, place);
                way = hasBit(fold, l) ? -way : way;
            }
        }

        int placeOf(int m) {
            return m >= 0 && m <= links ? places[m] : 0;
        }

        int lastPlace() {
            return placeOf(links);
        }

        int span() {
            return high - low;
        }

        private int lowOf(int l) {
            return Math.min(placeOf(l), placeOf(l + 1));
        }

        private int highOf(int l) {
            return Math.max(placeOf(l), placeOf(l + 1));
        }

        /** The most LINKS lie over a place where one of them begins, so no other place is looked at. */
        int stack() {
            int most = 0;
            for (int l = 0; l < links; l++) {
                most = Math.max(most, linksBehind(lowOf(l)));
            }
            return most;
        }

        private int linksBehind(int place) {
            int over = 0;
            for (int l = 0; l < links; l++) {
                if (lowOf(l) <= place && place < highOf(l)) {
                    over++;
                }
            }
            return over;
        }

        int othersOver(int l) {
            int others = 0;
            for (int other = 0; other < links; other++) {
                if (other != l && lowOf(other) < highOf(l) && lowOf(l) < highOf(other)) {
                    others++;
                }
            }
            return others;
        }
    }

    /** What is asked of all FOLDS. */
    private static final class Folds {
        private final Lay lay = new Lay();
        private final boolean[] measured = new boolean[MAX_SPAN + 1];

        int leastFold(Strip strip) {
            int which = NONE;
            int least = MAX_SPAN + 1;
            for (int fold = 0; fold < strip.foldLimit(); fold++) {
                if (strip.isFold(fold)) {
                    lay.layOut(strip, fold);
                    if (lay.span() < least) {
                        least = lay.span();
                        which = fold;
                    }
                }
            }
            return which;
        }

        int leastSpan(Strip strip) {
            lay.layOut(strip, leastFold(strip));
            return lay.span();
        }

        int greatestEnd(Strip strip) {
            int most = -MAX_SPAN;
            for (int fold = 0; fold < strip.foldLimit(); fold++) {
                if (strip.isFold(fold)) {
                    lay.layOut(strip, fold);
                    most = Math.max(most, lay.lastPlace());
                }
            }
            return most;
        }

        private boolean goesInto(Strip strip, int fold, int n) {
            lay.layOut(strip, fold);
            return lay.span() <= n;
        }

        private boolean endsAt(Strip strip, int fold, int n) {
            lay.layOut(strip, fold);
            return lay.lastPlace() == n;
        }

        int howManyGoInto(Strip strip, int n) {
            int many = 0;
            for (int fold = 0; fold < strip.foldLimit(); fold++) {
                if (strip.isFold(fold) && goesInto(strip, fold, n)) {
                    many++;
                }
            }
            return many;
        }

        /** By the fewest JOINTS BENT: the FOLD whose END is n, or else the one that goes into a box for n. */
        int nearestFold(Strip strip, int n, boolean byEnd) {
            int which = NONE;
            int fewest = MAX_LINKS;
            for (int fold = 0; fold < strip.foldLimit(); fold++) {
                int bent = Integer.bitCount(fold ^ strip.folded);
                if (bent < fewest && strip.isFold(fold)
                        && (byEnd ? endsAt(strip, fold, n) : goesInto(strip, fold, n))) {
                    fewest = bent;
                    which = fold;
                }
            }
            return which;
        }

        boolean canMeasure(Strip strip, int n) {
            measureAll(strip);
            return n >= 1 && n <= MAX_SPAN && measured[n];
        }

        int gap(Strip strip) {
            measureAll(strip);
            int n = 1;
            while (n <= MAX_SPAN && measured[n]) {
                n++;
            }
            return n;
        }

        private void measureAll(Strip strip) {
            for (int n = 0; n <= MAX_SPAN; n++) {
                measured[n] = false;
            }
            for (int fold = 0; fold < strip.foldLimit(); fold++) {
                if (strip.isFold(fold)) {
                    lay.layOut(strip, fold);
                    measureMarks();
                }
            }
        }

        private void measureMarks() {
            for (int m = 0; m <= lay.links; m++) {
                for (int other = 0; other < m; other++) {
                    int between = Math.abs(lay.placeOf(m) - lay.placeOf(other));
                    if (between <= MAX_SPAN) {
                        measured[between] = true;
                    }
                }
            }
        }

        /** Of 10 to the power of the FREE JOINTS: how much falls to FOLDS that go into a box for n. */
        int weightInto(Strip strip, int x, int n) {
            int weight = 0;
            for (int fold = 0; fold < strip.foldLimit(); fold++) {
                if (strip.isFold(fold) && goesInto(strip, fold, n)) {
                    int byChance = Integer.bitCount(fold & ~strip.stiff);
                    weight += power(x, byChance) * power(10 - x, strip.freeJoints() - byChance);
                }
            }
            return weight;
        }
    }

    /** What was SEEN, and which LINK can have been filed. */
    private static final class Sightings {
        private static final int MAX_LESS = 9;

        private final int[] seenFolds = new int[MAX_SEEN];
        private final int[] seenSpans = new int[MAX_SEEN];
        private int size;
        /** By 10 times LINK and k. */
        private final boolean[] isWay = new boolean[10 * MAX_LINKS];
        private final int[] tally = new int[MAX_SPAN + 1];
        private final Lay lay = new Lay();

        boolean isFull() {
            return size >= MAX_SEEN;
        }

        void loseAll() {
            size = 0;
        }

        void note(int fold, int span) {
            if (!isFull()) {
                seenFolds[size] = fold;
                seenSpans[size] = span;
                size++;
            }
        }

        /** How many WAYS there are; isWay has them then. */
        int findWays(Strip strip) {
            int many = 0;
            for (int l = 0; l < MAX_LINKS; l++) {
                for (int k = 1; k <= MAX_LESS; k++) {
                    boolean fits = strip.canFile(l, k) && agrees(strip, l, k);
                    isWay[10 * l + k] = fits;
                    many += fits ? 1 : 0;
                }
            }
            return many;
        }

        private boolean agrees(Strip strip, int l, int k) {
            for (int i = 0; i < size; i++) {
                lay.layOutFiled(strip, seenFolds[i], l, k);
                if (lay.span() != seenSpans[i]) {
                    return false;
                }
            }
            return true;
        }

        int firstWay(Strip strip) {
            findWays(strip);
            for (int way = 0; way < isWay.length; way++) {
                if (isWay[way]) {
                    return way;
                }
            }
            return NONE;
        }

        int bestTry(Strip strip) {
            int least = findWays(strip) + 1;
            if (least <= 2) {
                return NONE;
            }
            int which = NONE;
            for (int fold = 0; fold < strip.foldLimit(); fold++) {
                if (strip.isFold(fold)) {
                    int alike = mostAlike(strip, fold);
                    if (alike < least) {
                        least = alike;
                        which = fold;
                    }
                }
            }
            return which;
        }

        /** The greatest number of WAYS that have one SPAN behind a FOLD. */
        private int mostAlike(Strip strip, int fold) {
            for (int span = 0; span <= MAX_SPAN; span++) {
                tally[span] = 0;
            }
            int most = 0;
            for (int way = 0; way < isWay.length; way++) {
                if (isWay[way]) {
                    lay.layOutFiled(strip, fold, way / 10, way % 10);
                    most = Math.max(most, tallied(lay.span()));
                }
            }
            return most;
        }

        private int tallied(int span) {
            if (!isWithin(span, 0, MAX_SPAN)) {
                return 0;
            }
            tally[span]++;
            return tally[span];
        }
    }

    /** KINDS: each body asks the one above it once at most, and leaves its number in THE TRACE. */
    private static final class Rater {
        private static final int LINK = 0, WOOD = 1, BRASS = 2, BEECH = 3, TIP = 4, IVORY = 5;

        private long traced;

        int rateAs(int kind, Strip strip, Lay lay, int l) {
            switch (kind) {
                case LINK:
                    return asLink(strip, l);
                case WOOD:
                    return asWood(strip, lay, l);
                case BRASS:
                    return asBrass(strip, lay, l);
                case BEECH:
                    return asBeech(strip, lay, l);
                case TIP:
                    return asTip(strip, lay, l);
                case IVORY:
                    return asIvory(strip, lay, l);
                default:
                    return NO;
            }
        }

        private int asLink(Strip strip, int l) {
            traced += 1;
            return strip.lengthOf(l);
        }

        private int asWood(Strip strip, Lay lay, int l) {
            traced += 10;
            return asLink(strip, l) + lay.placeOf(l);
        }

        private int asBrass(Strip strip, Lay lay, int l) {
            traced += 100;
            return asLink(strip, l) - lay.span();
        }

        private int asBeech(Strip strip, Lay lay, int l) {
            traced += 1000;
            return 2 * asWood(strip, lay, l);
        }

        private int asTip(Strip strip, Lay lay, int l) {
            traced += 10000;
            return asBrass(strip, lay, l) + l;
        }

        private int asIvory(Strip strip, Lay lay, int l) {
            traced += 100000;
            return asLink(strip, l) + lay.stack();
        }
    }
}
