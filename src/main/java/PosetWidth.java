/** A partial order on ten things, with its largest spreads and chains. */
public final class PosetWidth {
    private static final int THINGS = 10;
    private static final int SETS = 1 << THINGS;
    private static final int ALL = SETS - 1;
    private static final int NONE = 0;
    private static final int REFUSED = -1;

    /**
     * later[a] is the set of the things that a comes before, one bit a thing. It is kept closed
     * (what follows from the pairs is in it), so that release can drop one thing's pairs and
     * leave those that once followed through it.
     */
    private final int[] later = new int[THINGS];

    public PosetWidth() {
    }

    public int put(int a, int b) {
        if (!isThing(a) || !isThing(b)) {
            return REFUSED;
        }
        if (a == b || comesBefore(b, a)) {
            return REFUSED;
        }
        int gained = later[b] | only(b);
        for (int x = 0; x < THINGS; x++) {
            if (x == a || comesBefore(x, a)) {
                later[x] |= gained;
            }
        }
        return pairs();
    }

    public int release(int thing) {
        if (!isThing(thing)) {
            return REFUSED;
        }
        later[thing] = NONE;
        for (int x = 0; x < THINGS; x++) {
            later[x] &= ~only(thing);
        }
        return pairs();
    }

    public int before(int a, int b) {
        if (!isThing(a) || !isThing(b)) {
            return REFUSED;
        }
        return comesBefore(a, b) ? 1 : 0;
    }

    public int width() {
        return widest(NONE, ALL);
    }

    public int widthWith(int thing) {
        if (!isThing(thing)) {
            return REFUSED;
        }
        int needed = only(thing);
        return widest(needed, ALL);
    }

    public int widthWithout(int thing) {
        if (!isThing(thing)) {
            return REFUSED;
        }
        int others = ALL & ~only(thing);
        return widest(NONE, others);
    }

    public int chosen(int thing) {
        if (!isThing(thing)) {
            return REFUSED;
        }
        int spread = chosenSpread();
        return holds(spread, thing) ? 1 : 0;
    }

    public int height() {
        return highest(NONE);
    }

    public int heightWith(int thing) {
        if (!isThing(thing)) {
            return REFUSED;
        }
        int needed = only(thing);
        return highest(needed);
    }

    public int widthBeside(int thing, boolean up) {
        if (!isThing(thing)) {
            return REFUSED;
        }
        int beside = up ? later[thing] : earlier(thing);
        return widest(NONE, beside);
    }

    private static boolean isThing(int thing) {
        return thing >= 0 && thing < THINGS;
    }

    private static int only(int thing) {
        return 1 << thing;
    }

    private static boolean holds(int set, int thing) {
        return (set >> thing & 1) != 0;
    }

    private static boolean isWithin(int part, int whole) {
        return (part & ~whole) == 0;
    }

    private static int size(int set) {
        int count = 0;
        for (int x = 0; x < THINGS; x++) {
            if (holds(set, x)) {
                count++;
            }
        }
        return count;
    }

    private boolean comesBefore(int a, int b) {
        return holds(later[a], b);
    }

    private int earlier(int thing) {
        int set = NONE;
        for (int x = 0; x < THINGS; x++) {
            if (holds(later[x], thing)) {
                set |= only(x);
            }
        }
        return set;
    }

    private int pairs() {
        int count = 0;
        for (int x = 0; x < THINGS; x++) {
            count += size(later[x]);
        }
        return count;
    }

    private boolean isSpread(int set) {
        for (int x = 0; x < THINGS; x++) {
            if (holds(set, x) && (later[x] & set) != NONE) {
                return false;
            }
        }
        return true;
    }

    private boolean isChain(int set) {
        for (int x = 0; x < THINGS; x++) {
            if (holds(set, x)) {
                int fitting = later[x] | earlier(x) | only(x);
                if (!isWithin(set, fitting)) {
                    return false;
                }
            }
        }
        return true;
    }

    /** The greatest size of a spread that has all of needed and nothing outside allowed. */
    private int widest(int needed, int allowed) {
        int best = 0;
        for (int set = 0; set < SETS; set++) {
            if (isWithin(needed, set) && isWithin(set, allowed) && isSpread(set)) {
                int count = size(set);
                if (count > best) {
                    best = count;
                }
            }
        }
        return best;
    }

    /** The greatest size of a chain that has all of needed. */
    private int highest(int needed) {
        int best = 0;
        for (int set = 0; set < SETS; set++) {
            if (isWithin(needed, set) && isChain(set)) {
                int count = size(set);
                if (count > best) {
                    best = count;
                }
            }
        }
        return best;
    }

    private int chosenSpread() {
        int greatest = widest(NONE, ALL);
        // A set is its own number, so the first one met on the way up has the least.
        for (int set = 0; set < SETS; set++) {
            if (size(set) == greatest && isSpread(set)) {
                return set;
            }
        }
        return NONE;
    }
}
