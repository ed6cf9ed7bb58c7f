/** The boundary cases that promises 2 to 11 name, with each thing at each place of the order. */
public final class PromisesBoundaryTest {
    private static final int[] OUTSIDE = {-1, 10, Integer.MIN_VALUE, Integer.MAX_VALUE};
    private static final Check CHECK = new Check("boundaries");

    public static void main(String[] args) {
        for (int[] name : Orders.namings()) {
            promise2CountsFromNoneToAll(name);
            promise2CountsWhatHeldBefore(name);
            promise2TakesWhatWasRefusedBefore(name);
            promise3ReleasesEachPlaceOfAChain(name);
            promise3ReleasesOneComparableWithNone(name);
            promise3ReleasesOneComparableWithAll(name);
            promise4Before(name);
            promises5And9ChainsOfEachLength(name);
            promises6And7And10ComparableWithAll(name);
            promises6And7And10ComparableWithNone(name);
            promises6And7And10ComparableWithSome(name);
            promise10OffTheLongestChain(name);
            promise11NoneBeside(name);
            promise11SomeBeside(name);
        }
        promises5And9AtTheStart();
        minusOne();
        CHECK.end();
    }

    private static void due(int promise, int[] name, String call, long got, long want) {
        CHECK.due("promise " + promise + " " + Orders.text(name) + ": " + call, got, want);
    }

    private static void promise2CountsFromNoneToAll(int[] name) {
        PosetWidth x = new PosetWidth();
        int pairs = 0;
        for (int late = 9; late > 0; late--) {
            for (int early = 0; early < late; early++) {
                pairs++;
                String call = "put(" + name[early] + ", " + name[late] + ")";
                due(2, name, call, x.put(name[early], name[late]), pairs);
            }
        }
        due(2, name, "all pairs", pairs, 45);
        due(2, name, "height() with all pairs", x.height(), 10);
    }

    private static void promise2CountsWhatHeldBefore(int[] name) {
        PosetWidth x = Orders.chain(name, 10);
        for (int late = 1; late < 10; late++) {
            for (int early = 0; early < late; early++) {
                String call = "put(" + name[early] + ", " + name[late] + "), which holds,";
                due(2, name, call, x.put(name[early], name[late]), 45);
            }
        }
        x = Orders.chain(name, 10);
        x.put(name[0], name[9]);
        x.put(name[4], name[5]);
        CHECK.same("after puts of what holds", Answers.of(x), Answers.of(Orders.chain(name, 10)));
    }

    private static void promise2TakesWhatWasRefusedBefore(int[] name) {
        PosetWidth x = Orders.chain(name, 3);
        due(2, name, "put of the last before the first", x.put(name[2], name[0]), -1);
        due(3, name, "release of the first", x.release(name[0]), 1);
        due(2, name, "put of the last before the first, now free", x.put(name[2], name[0]), 3);
        due(2, name, "put of the first before the middle", x.put(name[0], name[1]), -1);
        due(4, name, "before of the middle and the first", x.before(name[1], name[0]), 1);
    }

    private static void promise3ReleasesEachPlaceOfAChain(int[] name) {
        for (int place = 0; place < 10; place++) {
            PosetWidth x = Orders.chain(name, 10);
            int freed = name[place];
            due(3, name, "release(" + freed + ")", x.release(freed), 36);
            for (int i = 0; i < 10; i++) {
                for (int j = 0; j < 10; j++) {
                    boolean stays = i < j && i != place && j != place;
                    String call = "before(" + name[i] + ", " + name[j] + ") after release(" + freed + ")";
                    due(3, name, call, x.before(name[i], name[j]), stays ? 1 : 0);
                }
            }
            due(3, name, "heightWith(" + freed + ") once released", x.heightWith(freed), 1);
            due(3, name, "release(" + freed + ") again", x.release(freed), 36);
        }
    }

    private static void promise3ReleasesOneComparableWithNone(int[] name) {
        due(3, name, "release(" + name[0] + ") at the start", new PosetWidth().release(name[0]), 0);
        PosetWidth x = Orders.lens(name);
        for (int place = 6; place < 10; place++) {
            due(3, name, "release(" + name[place] + ") beside a lens", x.release(name[place]), 12);
        }
        CHECK.same("after releases beside a lens", Answers.of(x), Answers.of(Orders.lens(name)));
    }

    private static void promise3ReleasesOneComparableWithAll(int[] name) {
        PosetWidth x = middle(name);
        due(3, name, "release of the middle", x.release(name[4]), 20);
        due(3, name, "before through the middle that was", x.before(name[0], name[9]), 1);
        x = star(name, true);
        due(3, name, "release of the one before all", x.release(name[0]), 0);
        x = star(name, false);
        due(3, name, "release of the one behind all", x.release(name[0]), 0);
    }

    private static void promise4Before(int[] name) {
        PosetWidth x = Orders.lens(name);
        due(4, name, "before, as put", x.before(name[0], name[1]), 1);
        due(4, name, "before, as follows", x.before(name[0], name[5]), 1);
        due(4, name, "before, as put, turned round", x.before(name[1], name[0]), 0);
        due(4, name, "before, as follows, turned round", x.before(name[5], name[0]), 0);
        due(4, name, "before of two beside each other", x.before(name[1], name[2]), 0);
        due(4, name, "before of one comparable with none", x.before(name[6], name[0]), 0);
        due(4, name, "before of a thing and itself", x.before(name[1], name[1]), 0);
    }

    private static void promises5And9AtTheStart() {
        CHECK.due("promise 5: width() as the first call", new PosetWidth().width(), 10);
        CHECK.due("promise 9: height() as the first call", new PosetWidth().height(), 1);
    }

    private static void promises5And9ChainsOfEachLength(int[] name) {
        for (int length = 1; length <= 10; length++) {
            PosetWidth x = Orders.chain(name, length);
            due(5, name, "width() with a chain of " + length, x.width(), 11 - length);
            due(9, name, "height() with a chain of " + length, x.height(), length);
        }
    }

    /** Places 0 to 3 before place 4, and 4 before places 5 to 9. */
    private static PosetWidth middle(int[] name) {
        return Orders.levels(Orders.part(name, 0, 4), Orders.part(name, 4, 5), Orders.part(name, 5, 10));
    }

    /** Place 0 before all others, or all others before place 0. */
    private static PosetWidth star(int[] name, boolean first) {
        int[] heart = Orders.part(name, 0, 1);
        int[] rest = Orders.part(name, 1, 10);
        return first ? Orders.levels(heart, rest) : Orders.levels(rest, heart);
    }

    private static void dueWith(String order, PosetWidth x, int thing, int with, int without, int height) {
        CHECK.due("promise 6, " + order + ": widthWith(" + thing + ")", x.widthWith(thing), with);
        CHECK.due("promise 7, " + order + ": widthWithout(" + thing + ")", x.widthWithout(thing), without);
        CHECK.due("promise 10, " + order + ": heightWith(" + thing + ")", x.heightWith(thing), height);
    }

    private static void promises6And7And10ComparableWithAll(int[] name) {
        dueWith("middle", middle(name), name[4], 1, 5, 3);
        dueWith("before four and five", middle(name), name[0], 4, 5, 3);
        dueWith("behind four and five", middle(name), name[9], 5, 4, 3);
        for (boolean first : new boolean[] {true, false}) {
            dueWith("heart of a star", star(name, first), name[0], 1, 9, 2);
            dueWith("rest of a star", star(name, first), name[7], 9, 8, 2);
        }
        for (int k : name) {
            dueWith("chain of ten", Orders.chain(name, 10), k, 1, 1, 10);
        }
    }

    private static void promises6And7And10ComparableWithNone(int[] name) {
        dueWith("at the start", new PosetWidth(), name[0], 10, 9, 1);
        dueWith("beside a chain of nine", Orders.chain(name, 9), name[9], 2, 1, 1);
        dueWith("in a chain of nine", Orders.chain(name, 9), name[3], 2, 2, 9);
        dueWith("beside a lens", Orders.lens(name), name[8], 7, 6, 1);
    }

    private static void promises6And7And10ComparableWithSome(int[] name) {
        PosetWidth x = Orders.lens(name);
        int[] with = {5, 7, 7, 7, 5, 5, 7, 7, 7, 7};
        int[] without = {7, 6, 6, 6, 7, 7, 6, 6, 6, 6};
        int[] height = {4, 4, 4, 4, 4, 4, 1, 1, 1, 1};
        for (int place = 0; place < 10; place++) {
            dueWith("place " + place + " of a lens", x, name[place], with[place], without[place], height[place]);
        }
    }

    /** Places 0 to 5 are a chain; place 6 stands between 0 and 5, and place 7 behind 4 alone. */
    private static void promise10OffTheLongestChain(int[] name) {
        PosetWidth x = Orders.chain(name, 6);
        x.put(name[0], name[6]);
        x.put(name[6], name[5]);
        x.put(name[4], name[7]);
        x.put(name[8], name[9]);
        int[] height = {6, 6, 6, 6, 6, 6, 3, 6, 2, 2};
        for (int place = 0; place < 10; place++) {
            due(10, name, "heightWith(" + name[place] + ")", x.heightWith(name[place]), height[place]);
        }
        due(9, name, "height()", x.height(), 6);
    }

    private static void dueBeside(int[] name, String order, PosetWidth x, int place, int before, int behind) {
        int thing = name[place];
        due(11, name, order + ": widthBeside(" + thing + ", false)", x.widthBeside(thing, false), before);
        due(11, name, order + ": widthBeside(" + thing + ", true)", x.widthBeside(thing, true), behind);
    }

    private static void promise11NoneBeside(int[] name) {
        dueBeside(name, "at the start", new PosetWidth(), 0, 0, 0);
        dueBeside(name, "beside a lens", Orders.lens(name), 6, 0, 0);
        dueBeside(name, "first of a chain", Orders.chain(name, 10), 0, 0, 1);
        dueBeside(name, "last of a chain", Orders.chain(name, 10), 9, 1, 0);
        dueBeside(name, "before all", star(name, true), 0, 0, 9);
        dueBeside(name, "behind all", star(name, false), 0, 9, 0);
        PosetWidth x = star(name, true);
        x.release(name[0]);
        dueBeside(name, "released", x, 0, 0, 0);
    }

    private static void promise11SomeBeside(int[] name) {
        dueBeside(name, "middle", middle(name), 4, 4, 5);
        dueBeside(name, "before the middle", middle(name), 0, 0, 5);
        dueBeside(name, "behind the middle", middle(name), 9, 4, 0);
        int[] before = {0, 1, 1, 1, 3, 3, 0, 0, 0, 0};
        int[] behind = {3, 1, 1, 1, 1, 0, 0, 0, 0, 0};
        for (int place = 0; place < 10; place++) {
            dueBeside(name, "lens", Orders.lens(name), place, before[place], behind[place]);
            dueBeside(name, "chain", Orders.chain(name, 10), place, place > 0 ? 1 : 0, place < 9 ? 1 : 0);
        }
    }

    /** Promise by promise; RefusedTest has the same calls in more states, and what they change. */
    private static void minusOne() {
        for (int wrong : OUTSIDE) {
            PosetWidth x = Orders.lens();
            String of = " of " + wrong;
            CHECK.due("promise 2: put, first thing" + of, x.put(wrong, 6), -1);
            CHECK.due("promise 2: put, second thing" + of, x.put(6, wrong), -1);
            CHECK.due("promise 3: release" + of, x.release(wrong), -1);
            CHECK.due("promise 4: before, first thing" + of, x.before(wrong, 6), -1);
            CHECK.due("promise 4: before, second thing" + of, x.before(6, wrong), -1);
            CHECK.due("promise 4: before, both things" + of, x.before(wrong, wrong), -1);
            CHECK.due("promise 6: widthWith" + of, x.widthWith(wrong), -1);
            CHECK.due("promise 7: widthWithout" + of, x.widthWithout(wrong), -1);
            CHECK.due("promise 8: chosen" + of, x.chosen(wrong), -1);
            CHECK.due("promise 10: heightWith" + of, x.heightWith(wrong), -1);
            CHECK.due("promise 11: widthBeside, false," + of, x.widthBeside(wrong, false), -1);
            CHECK.due("promise 11: widthBeside, true," + of, x.widthBeside(wrong, true), -1);
        }
    }
}
