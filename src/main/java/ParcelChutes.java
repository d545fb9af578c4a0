import java.util.NoSuchElementException;

/** Sorts parcels of weights and girths that may be unknown into chutes of limits that may be unset. */
public final class ParcelChutes {
    private static final int CHUTES = 8;
    private static final int ROOM = 12;
    private static final int MOST_WEIGHT = 800000;
    private static final int MOST_GIRTH = 16000;

    // One value for unknown and for unset: the document treats both alike under every sign.
    private static final int UNKNOWN = 0;

    private static final int LESS = 1;
    private static final int NOT_MORE = 2;
    private static final int MORE = 4;
    private static final int NOT_LESS = 8;
    private static final int SAME = 16;
    private static final int DIFFERENT = 32;

    private static final int STRICT = 0;
    private static final int LENIENT = 1;
    private static final int EXACT = 2;
    private static final int OTHER = 3;
    private static final int BEYOND = 4;

    private final Chute[] chutes;
    private int lightest;
    private int heaviest;
    private int widest;
    private int streak;
    private int came;
    private int latestWeight;
    private int asideCount;
    private int asideWeight;
    private int asideGirth;

    public ParcelChutes() {
        chutes = new Chute[CHUTES];
        for (int k = 0; k < CHUTES; k++) {
            chutes[k] = new Chute();
        }
    }

    public int sort(int chute, int sort) throws IndexOutOfBoundsException, IllegalArgumentException, IllegalStateException {
        Chute at = chuteAt(chute);
        if (sort < STRICT || sort > BEYOND) {
            throw new IllegalArgumentException("no such sort");
        }
        if (at.count > 0) {
            throw new IllegalStateException("the chute holds parcels");
        }
        int had = at.kind;
        at.kind = sort;
        return had;
    }

    public int limits(int chute, int low, int high, int wide) throws IndexOutOfBoundsException, IllegalArgumentException, IllegalStateException {
        Chute at = chuteAt(chute);
        requireWeight(low);
        requireWeight(high);
        requireGirth(wide);
        if (holds(high, LESS, low)) {
            throw new IllegalStateException("HIGH is less than LOW");
        }
        at.low = low;
        at.high = high;
        at.wide = wide;
        return oneIf(low != UNKNOWN) + oneIf(high != UNKNOWN) + oneIf(wide != UNKNOWN);
    }

    public boolean shut(int chute, boolean shut) throws IndexOutOfBoundsException {
        Chute at = chuteAt(chute);
        boolean was = at.closed;
        at.closed = shut;
        return was;
    }

    public int send(int weight, int girth) throws IllegalArgumentException {
        requireWeight(weight);
        requireGirth(girth);
        readGauges(weight, girth);
        for (int k = 0; k < CHUTES; k++) {
            if (!chutes[k].closed && chutes[k].admit(weight, girth)) {
                return k;
            }
        }
        putAside(weight, girth);
        return -1;
    }

    public int fits(int weight, int girth) throws IllegalArgumentException {
        requireWeight(weight);
        requireGirth(girth);
        int bits = 0;
        for (int k = 0; k < CHUTES; k++) {
            if (chutes[k].suits(weight, girth)) {
                bits |= 1 << k;
            }
        }
        return bits;
    }

    public int signs(int chute, int what, int number) throws IndexOutOfBoundsException, IllegalArgumentException {
        Chute at = chuteAt(chute);
        switch (what) {
            case 0:
                requireWeight(number);
                return signsBetween(number, at.low);
            case 1:
                requireWeight(number);
                return signsBetween(number, at.high);
            case 2:
                requireGirth(number);
                return signsBetween(number, at.wide);
            default:
                throw new IllegalArgumentException("no such what");
        }
    }

    public int chute(int chute, int what) throws IndexOutOfBoundsException, IllegalArgumentException {
        Chute at = chuteAt(chute);
        switch (what) {
            case 0:
                return at.kind;
            case 1:
                return at.low;
            case 2:
                return at.high;
            case 3:
                return at.wide;
            case 4:
                return oneIf(at.closed);
            case 5:
                return at.count;
            case 6:
                return at.unknownIn(at.weights);
            case 7:
                return at.unknownIn(at.girths);
            default:
                throw new IllegalArgumentException("no such what");
        }
    }

    public int weight(int chute, int place) throws IndexOutOfBoundsException, NoSuchElementException {
        Chute at = chuteAt(chute);
        requirePlace(at, place);
        return at.weights[place];
    }

    public int girth(int chute, int place) throws IndexOutOfBoundsException, NoSuchElementException {
        Chute at = chuteAt(chute);
        requirePlace(at, place);
        return at.girths[place];
    }

    public int below(int chute, int weight) throws IndexOutOfBoundsException, IllegalArgumentException {
        Chute at = chuteAt(chute);
        requireWeight(weight);
        int lighter = 0;
        for (int place = 0; place < at.count; place++) {
            lighter += oneIf(holds(at.weights[place], LESS, weight));
        }
        return lighter;
    }

    public int take(int chute, int weight) throws IndexOutOfBoundsException, IllegalArgumentException, NoSuchElementException {
        Chute at = chuteAt(chute);
        requireWeight(weight);
        int place = at.firstOf(weight);
        requirePlace(at, place);
        int girth = at.girths[place];
        at.removeAt(place);
        return girth;
    }

    public int pour(int from, int to) throws IndexOutOfBoundsException, IllegalArgumentException {
        Chute source = chuteAt(from);
        Chute target = chuteAt(to);
        if (from == to) {
            throw new IllegalArgumentException("both are one chute");
        }
        int held = source.count;
        int kept = 0;
        for (int seen = 0; seen < held; seen++) {
            if (target.admit(source.weights[kept], source.girths[kept])) {
                source.removeAt(kept);
            } else {
                kept++;
            }
        }
        return held - kept;
    }

    public int sweep(int chute) throws IndexOutOfBoundsException {
        Chute at = chuteAt(chute);
        int held = at.count;
        int kept = 0;
        for (int seen = 0; seen < held; seen++) {
            if (at.suits(at.weights[kept], at.girths[kept])) {
                kept++;
            } else {
                putAside(at.weights[kept], at.girths[kept]);
                at.removeAt(kept);
            }
        }
        return held - kept;
    }

    public int heavier(int one, int other) throws IndexOutOfBoundsException {
        int here = chuteAt(one).heaviestKnown();
        int there = chuteAt(other).heaviestKnown();
        if (holds(here, MORE, there)) {
            return 1;
        }
        if (holds(here, LESS, there)) {
            return -1;
        }
        return holds(here, SAME, there) ? 0 : 2;
    }

    public int alike(int one, int other) throws IndexOutOfBoundsException {
        Chute here = chuteAt(one);
        Chute there = chuteAt(other);
        int places = Math.min(here.count, there.count);
        for (int place = 0; place < places; place++) {
            if (!holds(here.weights[place], SAME, there.weights[place])
                    || !holds(here.girths[place], SAME, there.girths[place])) {
                return place;
            }
        }
        return places;
    }

    public int gauge(int what) throws IllegalArgumentException {
        switch (what) {
            case 0:
                return lightest;
            case 1:
                return heaviest;
            case 2:
                return widest;
            case 3:
                return streak;
            case 4:
                return came;
            case 5:
                return asideCount;
            case 6:
                return asideWeight;
            case 7:
                return asideGirth;
            default:
                throw new IllegalArgumentException("no such what");
        }
    }

    private Chute chuteAt(int number) {
        if (number < 0 || number >= CHUTES) {
            throw new IndexOutOfBoundsException("no such chute");
        }
        return chutes[number];
    }

    private void readGauges(int weight, int girth) {
        // An unknown number leaves an unset gauge unset, and no sign but # holds for it against a set one.
        if (lightest == UNKNOWN || holds(weight, LESS, lightest)) {
            lightest = weight;
        }
        if (heaviest == UNKNOWN || holds(weight, MORE, heaviest)) {
            heaviest = weight;
        }
        if (widest == UNKNOWN || holds(girth, MORE, widest)) {
            widest = girth;
        }
        // Ahead of the first parcel the latest weight is unknown, so that the first one makes the streak 1.
        streak = holds(weight, LESS, latestWeight) ? 1 : streak + 1;
        latestWeight = weight;
        came++;
    }

    private void putAside(int weight, int girth) {
        asideCount++;
        asideWeight = weight;
        asideGirth = girth;
    }

    private static void requireWeight(int number) {
        if (number < UNKNOWN || number > MOST_WEIGHT) {
            throw new IllegalArgumentException("no such weight");
        }
    }

    private static void requireGirth(int number) {
        if (number < UNKNOWN || number > MOST_GIRTH) {
            throw new IllegalArgumentException("no such girth");
        }
    }

    private static void requirePlace(Chute at, int place) {
        if (place < 0 || place >= at.count) {
            throw new NoSuchElementException("no such parcel");
        }
    }

    private static int oneIf(boolean so) {
        return so ? 1 : 0;
    }

    /** The signs of the document are asked here alone, so that unknown means one thing everywhere. */
    private static int signsBetween(int ahead, int behind) {
        if (ahead == UNKNOWN || behind == UNKNOWN) {
            return DIFFERENT;
        }
        if (ahead < behind) {
            return LESS | NOT_MORE | DIFFERENT;
        }
        if (ahead > behind) {
            return MORE | NOT_LESS | DIFFERENT;
        }
        return NOT_MORE | NOT_LESS | SAME;
    }

    private static boolean holds(int ahead, int sign, int behind) {
        return (signsBetween(ahead, behind) & sign) != 0;
    }

    /** A chute, its parcels in two rows, place by place, as they lie. */
    private static final class Chute {
        final int[] weights = new int[ROOM];
        final int[] girths = new int[ROOM];
        int count;
        int kind;
        int low;
        int high;
        int wide;
        boolean closed;

        boolean suits(int weight, int girth) {
            switch (kind) {
                case STRICT:
                    return holds(low, NOT_MORE, weight) && holds(weight, LESS, high) && holds(girth, NOT_MORE, wide);
                case LENIENT:
                    return !holds(weight, LESS, low) && !holds(weight, NOT_LESS, high) && !holds(girth, MORE, wide);
                case EXACT:
                    return holds(weight, SAME, low) || holds(girth, SAME, wide);
                case OTHER:
                    return holds(weight, DIFFERENT, low) && holds(weight, DIFFERENT, high) && holds(girth, DIFFERENT, wide);
                default:
                    return holds(weight, MORE, high) || holds(weight, LESS, low) || holds(girth, NOT_LESS, wide);
            }
        }

        /** Takes a parcel in if it fits and there is room: whether it did. */
        boolean admit(int weight, int girth) {
            if (count >= ROOM || !suits(weight, girth)) {
                return false;
            }
            int place = placeFor(weight);
            for (int k = count; k > place; k--) {
                weights[k] = weights[k - 1];
                girths[k] = girths[k - 1];
            }
            weights[place] = weight;
            girths[place] = girth;
            count++;
            return true;
        }

        /** Behind equal weights, since those came in earlier, and ahead of unknown ones unless it is unknown too. */
        int placeFor(int weight) {
            if (weight == UNKNOWN) {
                return count;
            }
            int place = 0;
            while (place < count && holds(weights[place], NOT_MORE, weight)) {
                place++;
            }
            return place;
        }

        /** The place of the first parcel told with this weight, 0 meaning unknown; -1 if there is none. */
        int firstOf(int weight) {
            for (int place = 0; place < count; place++) {
                // Not the sign =, which never holds for the unknown weight that take() may ask for.
                if (weights[place] == weight) {
                    return place;
                }
            }
            return -1;
        }

        void removeAt(int place) {
            count--;
            for (int k = place; k < count; k++) {
                weights[k] = weights[k + 1];
                girths[k] = girths[k + 1];
            }
        }

        int unknownIn(int[] row) {
            int unknown = 0;
            for (int place = 0; place < count; place++) {
                unknown += oneIf(row[place] == UNKNOWN);
            }
            return unknown;
        }

        int heaviestKnown() {
            int place = count - unknownIn(weights) - 1;
            return place < 0 ? UNKNOWN : weights[place];
        }
    }
}
