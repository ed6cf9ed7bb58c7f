/**
 * Long mixed runs, held against a model that follows the document's words: a table of pairs,
 * and every set of things looked at pair by pair.
 */
public final class ModelTest {
    private static final int THINGS = 10;
    private static final int RUNS = 600;
    private static final int MOST_CALLS = 512;
    private static final int CALLS_OF_FULL_LOOK = THINGS * THINGS + 6 * THINGS + 2;
    private static final Check CHECK = new Check("model");

    private final boolean[][] pair = new boolean[THINGS][THINGS];
    private final PosetWidth program = new PosetWidth();
    private final int run;
    private int call = 0;
    private long seed;

    private ModelTest(int run) {
        this.run = run;
        this.seed = run;
    }

    public static void main(String[] args) {
        for (int run = 0; run < RUNS; run++) {
            new ModelTest(run).play();
        }
        CHECK.end();
    }

    private void play() {
        int mixed = run % 4 == 0 ? MOST_CALLS - CALLS_OF_FULL_LOOK : next(60);
        int releasesInTen = run % 3;
        for (int k = 0; k < mixed; k++) {
            step(releasesInTen);
        }
        lookAtAll();
    }

    private void step(int releasesInTen) {
        int a = anyThing();
        int b = anyThing();
        int kind = next(10);
        if (kind < releasesInTen) {
            due("release(" + a + ")", program.release(a), release(a));
        } else if (kind < 8) {
            due("put(" + a + ", " + b + ")", program.put(a, b), put(a, b));
        } else {
            lookAt(next(6), a);
        }
    }

    private void lookAtAll() {
        for (int a = 0; a < THINGS; a++) {
            for (int b = 0; b < THINGS; b++) {
                due("before(" + a + ", " + b + ")", program.before(a, b), pair[a][b] ? 1 : 0);
            }
            for (int kind = 0; kind < 6; kind++) {
                lookAt(kind, a);
            }
        }
        due("width()", program.width(), size(best(false, 0, 1023)));
        due("height()", program.height(), size(best(true, 0, 1023)));
    }

    private void lookAt(int kind, int a) {
        boolean in = isThing(a);
        int only = in ? 1 << a : 0;
        switch (kind) {
            case 0 -> due("widthWith(" + a + ")", program.widthWith(a),
                    in ? size(best(false, only, 1023)) : -1);
            case 1 -> due("widthWithout(" + a + ")", program.widthWithout(a),
                    in ? size(best(false, 0, 1023 - only)) : -1);
            case 2 -> due("chosen(" + a + ")", program.chosen(a),
                    in ? best(false, 0, 1023) >> a & 1 : -1);
            case 3 -> due("heightWith(" + a + ")", program.heightWith(a),
                    in ? size(best(true, only, 1023)) : -1);
            case 4 -> due("widthBeside(" + a + ", true)", program.widthBeside(a, true),
                    in ? size(best(false, 0, beside(a, true))) : -1);
            default -> due("widthBeside(" + a + ", false)", program.widthBeside(a, false),
                    in ? size(best(false, 0, beside(a, false))) : -1);
        }
    }

    private void due(String text, int got, int want) {
        call++;
        CHECK.due("run " + run + ", call " + call + ": " + text, got, want);
    }

    private int put(int a, int b) {
        if (!isThing(a) || !isThing(b) || a == b || pair[b][a]) {
            return -1;
        }
        pair[a][b] = true;
        for (int via = 0; via < THINGS; via++) {
            for (int x = 0; x < THINGS; x++) {
                for (int y = 0; y < THINGS; y++) {
                    pair[x][y] |= pair[x][via] && pair[via][y];
                }
            }
        }
        return pairs();
    }

    private int release(int thing) {
        if (!isThing(thing)) {
            return -1;
        }
        for (int x = 0; x < THINGS; x++) {
            pair[x][thing] = false;
            pair[thing][x] = false;
        }
        return pairs();
    }

    private int pairs() {
        int count = 0;
        for (boolean[] row : pair) {
            for (boolean isPair : row) {
                count += isPair ? 1 : 0;
            }
        }
        return count;
    }

    private int beside(int thing, boolean up) {
        int set = 0;
        for (int x = 0; x < THINGS; x++) {
            if (up ? pair[thing][x] : pair[x][thing]) {
                set += 1 << x;
            }
        }
        return set;
    }

    /** Of the largest chains or spreads with all of needed and only of allowed, the least number. */
    private int best(boolean chain, int needed, int allowed) {
        int best = -1;
        for (int set = 1023; set >= 0; set--) {
            boolean fits = (set & needed) == needed && (set | allowed) == allowed;
            if (fits && (best < 0 || size(set) >= size(best)) && allPairsAre(chain, set)) {
                best = set;
            }
        }
        return best;
    }

    private boolean allPairsAre(boolean comparable, int set) {
        for (int x = 0; x < THINGS; x++) {
            for (int y = x + 1; y < THINGS; y++) {
                boolean both = (set >> x & 1) == 1 && (set >> y & 1) == 1;
                if (both && (pair[x][y] || pair[y][x]) != comparable) {
                    return false;
                }
            }
        }
        return true;
    }

    private static int size(int set) {
        return Integer.bitCount(set);
    }

    private static boolean isThing(int thing) {
        return thing >= 0 && thing <= 9;
    }

    /** Mostly a thing, now and then a number just outside. */
    private int anyThing() {
        int number = next(40);
        return number < 38 ? number % THINGS : number == 38 ? -1 : THINGS;
    }

    /** The same numbers on every day: a run that fails can be played again. */
    private int next(int bound) {
        seed = seed * 6364136223846793005L + 1442695040888963407L;
        return (int) ((seed >>> 33) % bound);
    }
}
