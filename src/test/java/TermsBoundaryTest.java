import java.util.LinkedHashMap;
import java.util.List;
import java.util.Map;
import java.util.function.ToIntFunction;

/** The boundary cases that "What it is", "Terms" and promises 1 and 8 name. */
public final class TermsBoundaryTest {
    private static final int MOST_CALLS = 512;
    private static final int CALLS_OF_LENS = 7;
    private static final Check CHECK = new Check("terms");

    public static void main(String[] args) {
        eachCallAsThe512th();
        allAnswersUpToThe512thCall();
        the512thAfterRefusedCalls();
        the512thAfterCallsThatAsk();
        noThingComesBeforeItself();
        atTheStartNoneComesBeforeAnother();
        whatFollowsFromTwoPairs();
        allTenInOneChain();
        twoChainsJoinedByOnePut();
        downToNoneComparable();
        chosenAtTheStart();
        chosenOfOneChain();
        chosenOfTwoChains();
        chosenOfLevels();
        chosenByNumberNotByLeastThingOrSum();
        chosenBySizeBeforeNumber();
        chosenAfterChanges();
        CHECK.end();
    }

    /** An object that has had so many calls; the last seven of them made the lens. */
    private static PosetWidth lensAfter(int calls) {
        PosetWidth x = new PosetWidth();
        int filling = calls - CALLS_OF_LENS;
        if (filling % 2 == 1) {
            CHECK.due("width() as call 1", x.width(), 10);
        }
        for (int call = filling % 2 + 1; call < filling; call += 2) {
            int thing = call / 2 % 9;
            CHECK.due("put as call " + call, x.put(thing, thing + 1), 1);
            CHECK.due("release as call " + (call + 1), x.release(thing), 0);
        }
        Orders.putLens(x, Orders.PLAIN);
        return x;
    }

    private static void eachCallAsThe512th() {
        Map<String, ToIntFunction<PosetWidth>> calls = new LinkedHashMap<>();
        calls.put("put(5, 6)", x -> x.put(5, 6));
        calls.put("put(0, 5), which holds,", x -> x.put(0, 5));
        calls.put("put(5, 0), which is refused,", x -> x.put(5, 0));
        calls.put("release(4)", x -> x.release(4));
        calls.put("before(0, 5)", x -> x.before(0, 5));
        calls.put("before(5, 0)", x -> x.before(5, 0));
        calls.put("before(10, 0)", x -> x.before(10, 0));
        calls.put("width()", x -> x.width());
        calls.put("widthWith(0)", x -> x.widthWith(0));
        calls.put("widthWithout(9)", x -> x.widthWithout(9));
        calls.put("chosen(3)", x -> x.chosen(3));
        calls.put("chosen(0)", x -> x.chosen(0));
        calls.put("height()", x -> x.height());
        calls.put("heightWith(2)", x -> x.heightWith(2));
        calls.put("widthBeside(0, true)", x -> x.widthBeside(0, true));
        calls.put("widthBeside(5, false)", x -> x.widthBeside(5, false));
        int[] want = {18, 12, -1, 7, 1, 0, -1, 7, 5, 6, 1, 0, 4, 4, 3, 3};
        int row = 0;
        for (Map.Entry<String, ToIntFunction<PosetWidth>> call : calls.entrySet()) {
            PosetWidth x = lensAfter(MOST_CALLS - 1);
            CHECK.due(call.getKey() + " as call 512", call.getValue().applyAsInt(x), want[row++]);
        }
    }

    private static void allAnswersUpToThe512thCall() {
        PosetWidth x = lensAfter(MOST_CALLS - Answers.CALLS);
        List<String> answers = Answers.of(x);
        CHECK.due("number of calls in one look", answers.size(), Answers.CALLS);
        CHECK.same("in the calls up to the 512th", answers, Answers.of(Orders.lens()));
    }

    private static void the512thAfterRefusedCalls() {
        PosetWidth x = new PosetWidth();
        for (int call = 1; call < MOST_CALLS; call++) {
            CHECK.due("put(4, 4) as call " + call, x.put(4, 4), -1);
        }
        CHECK.due("put(4, 5) as call 512", x.put(4, 5), 1);
    }

    private static void the512thAfterCallsThatAsk() {
        PosetWidth x = Orders.lens();
        for (int call = CALLS_OF_LENS + 1; call <= MOST_CALLS; call += 5) {
            CHECK.due("width() as call " + call, x.width(), 7);
            CHECK.due("height() as call " + (call + 1), x.height(), 4);
            CHECK.due("chosen(0) as call " + (call + 2), x.chosen(0), 0);
            CHECK.due("before(0, 5) as call " + (call + 3), x.before(0, 5), 1);
            CHECK.due("widthBeside(0, true) as call " + (call + 4), x.widthBeside(0, true), 3);
        }
    }

    private static void noThingComesBeforeItself() {
        for (int[] name : Orders.namings()) {
            PosetWidth x = Orders.chain(name, 10);
            x.put(name[9], name[0]);
            for (int k : name) {
                x.put(k, k);
                CHECK.due("before(" + k + ", " + k + ") in chain " + Orders.text(name), x.before(k, k), 0);
            }
            x.release(name[4]);
            for (int k : name) {
                CHECK.due("before(" + k + ", " + k + ") after release(" + name[4] + ")", x.before(k, k), 0);
            }
        }
        for (int k : Orders.PLAIN) {
            CHECK.due("before(" + k + ", " + k + ") at the start", new PosetWidth().before(k, k), 0);
        }
    }

    private static void atTheStartNoneComesBeforeAnother() {
        for (int a : Orders.PLAIN) {
            for (int b : Orders.PLAIN) {
                CHECK.due("before(" + a + ", " + b + ") as the first call", new PosetWidth().before(a, b), 0);
                if (a != b) {
                    CHECK.due("put(" + a + ", " + b + ") as the first call", new PosetWidth().put(a, b), 1);
                }
            }
            CHECK.due("release(" + a + ") as the first call", new PosetWidth().release(a), 0);
        }
    }

    private static void whatFollowsFromTwoPairs() {
        for (int a : Orders.PLAIN) {
            for (int b : Orders.PLAIN) {
                for (int c : Orders.PLAIN) {
                    if (a != b && b != c && a != c) {
                        dueFollows(a, b, c);
                    }
                }
            }
        }
    }

    private static void dueFollows(int a, int b, int c) {
        String order = a + " before " + b + " before " + c + ": ";
        PosetWidth x = new PosetWidth();
        CHECK.due(order + "first pair", x.put(a, b), 1);
        CHECK.due(order + "second pair", x.put(b, c), 3);
        PosetWidth y = new PosetWidth();
        CHECK.due(order + "second pair first", y.put(b, c), 1);
        CHECK.due(order + "first pair then", y.put(a, b), 3);
        CHECK.due(order + "before", x.before(a, c), 1);
        CHECK.due(order + "before, second pair first", y.before(a, c), 1);
        CHECK.due(order + "before, the other way round", x.before(c, a), 0);
        // What comes before the same thing, or after it, does not follow one from the other.
        PosetWidth fork = new PosetWidth();
        fork.put(a, b);
        CHECK.due(a + " before " + b + " and " + c, fork.put(a, c), 2);
        PosetWidth meet = new PosetWidth();
        meet.put(a, c);
        CHECK.due(a + " and " + b + " before " + c, meet.put(b, c), 2);
    }

    private static void allTenInOneChain() {
        int[][] ordersOfPuts = {
            {0, 1, 2, 3, 4, 5, 6, 7, 8}, {8, 7, 6, 5, 4, 3, 2, 1, 0},
            {0, 2, 4, 6, 8, 1, 3, 5, 7}, {4, 3, 5, 2, 6, 1, 7, 0, 8}, {8, 0, 7, 1, 6, 2, 5, 3, 4}
        };
        for (int[] name : Orders.namings()) {
            for (int[] places : ordersOfPuts) {
                PosetWidth x = new PosetWidth();
                int pairs = 0;
                for (int place : places) {
                    pairs = x.put(name[place], name[place + 1]);
                }
                String chain = "chain " + Orders.text(name) + " by puts " + Orders.text(places);
                CHECK.due(chain + ": pairs", pairs, 45);
                dueChain(chain, x, name);
            }
        }
    }

    private static void twoChainsJoinedByOnePut() {
        for (int[] name : Orders.namings()) {
            for (int end = 1; end < 10; end++) {
                PosetWidth x = Orders.chain(Orders.part(name, 0, end), end);
                for (int place = end; place < 9; place++) {
                    x.put(name[place], name[place + 1]);
                }
                String chain = "chain " + Orders.text(name) + " joined behind place " + (end - 1);
                CHECK.due(chain + ": pairs", x.put(name[end - 1], name[end]), 45);
                dueChain(chain, x, name);
            }
        }
    }

    private static void dueChain(String chain, PosetWidth x, int[] name) {
        for (int i = 0; i < 10; i++) {
            for (int j = 0; j < 10; j++) {
                String call = "before(" + name[i] + ", " + name[j] + ")";
                CHECK.due(chain + ": " + call, x.before(name[i], name[j]), i < j ? 1 : 0);
            }
        }
    }

    private static void downToNoneComparable() {
        int[] pairsLeft = {36, 28, 21, 15, 10, 6, 3, 1, 0, 0};
        for (int[] name : Orders.namings()) {
            PosetWidth x = Orders.chainOfTen();
            for (int k = 0; k < 10; k++) {
                CHECK.due("releases " + Orders.text(name) + ": number " + k, x.release(name[k]), pairsLeft[k]);
            }
            CHECK.same("after all releases", Answers.of(x), Answers.of(new PosetWidth()));
            CHECK.due("put against the chain that was", x.put(9, 0), 1);
        }
    }

    private static void dueChosen(String order, PosetWidth x, int number) {
        for (int k : Orders.PLAIN) {
            CHECK.due(order + ": chosen(" + k + ")", x.chosen(k), number >> k & 1);
        }
    }

    private static void chosenAtTheStart() {
        dueChosen("at the start", new PosetWidth(), 1023);
    }

    /** Ten spreads of one thing. */
    private static void chosenOfOneChain() {
        for (int[] name : Orders.namings()) {
            dueChosen("chain " + Orders.text(name), Orders.chain(name, 10), 1);
        }
    }

    /** Any thing of the one chain with any of the other: the least of each has the least number. */
    private static void chosenOfTwoChains() {
        for (int[] name : Orders.namings()) {
            PosetWidth x = Orders.chain(name, 5);
            int leastOfFirst = name[4];
            int leastOfSecond = name[9];
            for (int place = 0; place < 4; place++) {
                x.put(name[5 + place], name[6 + place]);
                leastOfFirst = Math.min(leastOfFirst, name[place]);
                leastOfSecond = Math.min(leastOfSecond, name[5 + place]);
            }
            dueChosen("two chains " + Orders.text(name), x, Orders.number(leastOfFirst, leastOfSecond));
        }
    }

    /** The levels are the only spreads of the greatest size. */
    private static void chosenOfLevels() {
        for (int[] name : Orders.namings()) {
            for (int size : new int[] {2, 5}) {
                int[][] levels = new int[10 / size][];
                int least = Integer.MAX_VALUE;
                for (int k = 0; k < levels.length; k++) {
                    levels[k] = Orders.part(name, k * size, k * size + size);
                    least = Math.min(least, Orders.number(levels[k]));
                }
                String order = "levels of " + size + " of " + Orders.text(name);
                dueChosen(order, Orders.levels(levels), least);
            }
        }
    }

    private static void chosenByNumberNotByLeastThingOrSum() {
        int[][] tail = {{2}, {7}, {8}, {9}};
        int[] lessSum = {0, 1, 6};
        int[] lessNumber = {3, 4, 5};
        dueChosen("{3, 4, 5} behind {0, 1, 6}",
                Orders.levels(lessSum, lessNumber, tail[0], tail[1], tail[2], tail[3]), 0b0000111000);
        dueChosen("{3, 4, 5} ahead of {0, 1, 6}",
                Orders.levels(tail[0], tail[1], lessNumber, tail[2], lessSum, tail[3]), 0b0000111000);
        // 1 to 8 are of less number than 0 and 2 to 7 with 9, though 0 is the least thing.
        PosetWidth x = new PosetWidth();
        x.put(0, 1);
        x.put(0, 8);
        x.put(9, 1);
        x.put(9, 8);
        dueChosen("{0, 9} and {1, 8} beside 2 to 7", x, 0b0111111110);
    }

    private static void chosenBySizeBeforeNumber() {
        int[] three = {7, 8, 9};
        PosetWidth x = Orders.levels(new int[] {0}, new int[] {1, 2}, new int[] {3}, new int[] {4, 5},
                new int[] {6}, three);
        dueChosen("{7, 8, 9} is the only spread of three", x, 0b1110000000);
    }

    private static void chosenAfterChanges() {
        PosetWidth x = Orders.levels(new int[] {0, 9}, new int[] {1, 2}, new int[] {3}, new int[] {4},
                new int[] {5}, new int[] {6}, new int[] {7}, new int[] {8});
        dueChosen("{1, 2} against {0, 9}", x, 0b0000000110);
        x.put(1, 2);
        dueChosen("{0, 9} alone", x, 0b1000000001);
        x.put(9, 0);
        dueChosen("one chain", x, 0b0000000001);
        x.release(9);
        dueChosen("9 and a chain", x, 0b1000000001);
        x.release(0);
        dueChosen("0, 9 and a chain", x, 0b1000000011);
    }
}
