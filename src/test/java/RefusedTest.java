import java.util.LinkedHashMap;
import java.util.List;
import java.util.Map;
import java.util.function.Supplier;
import java.util.function.ToIntFunction;

/** Each call that the document refuses answers -1, and all other answers are then as before it. */
public final class RefusedTest {
    /**
     * Just outside, the ends of int, and numbers that a shift by a thing (which Java takes
     * modulo 32) or a narrowing cast would make a thing of.
     */
    private static final int[] OUT_OF_RANGE = {
        -1, 10, Integer.MIN_VALUE, Integer.MAX_VALUE,
        11, -2, -10, 31, 32, 33, -31, -32, 256, 1 << 16, (1 << 31) + 5
    };
    private static final Check CHECK = new Check("refused");

    public static void main(String[] args) {
        thingOutOfRange();
        bothThingsOutOfRange();
        putOfAThingBeforeItself();
        putAgainstAPairThatWasPut();
        putAgainstAPairThatFollows();
        manyRefusedInOneRun();
        CHECK.end();
    }

    /** The empty order, one with some pairs, and the two full ones. */
    private static Map<String, Supplier<PosetWidth>> states() {
        Map<String, Supplier<PosetWidth>> states = new LinkedHashMap<>();
        states.put("new", PosetWidth::new);
        states.put("lens", Orders::lens);
        states.put("chain", Orders::chainOfTen);
        states.put("chain downwards", () -> Orders.chain(new int[] {9, 8, 7, 6, 5, 4, 3, 2, 1, 0}, 10));
        return states;
    }

    /** Every place in the face where a thing stands, with the number wrong in it. */
    private static Map<String, ToIntFunction<PosetWidth>> callsWith(int wrong) {
        Map<String, ToIntFunction<PosetWidth>> calls = new LinkedHashMap<>();
        for (int k : new int[] {0, 5, 9}) {
            calls.put("put(" + wrong + ", " + k + ")", x -> x.put(wrong, k));
            calls.put("put(" + k + ", " + wrong + ")", x -> x.put(k, wrong));
            calls.put("before(" + wrong + ", " + k + ")", x -> x.before(wrong, k));
            calls.put("before(" + k + ", " + wrong + ")", x -> x.before(k, wrong));
        }
        calls.put("release(" + wrong + ")", x -> x.release(wrong));
        calls.put("widthWith(" + wrong + ")", x -> x.widthWith(wrong));
        calls.put("widthWithout(" + wrong + ")", x -> x.widthWithout(wrong));
        calls.put("chosen(" + wrong + ")", x -> x.chosen(wrong));
        calls.put("heightWith(" + wrong + ")", x -> x.heightWith(wrong));
        calls.put("widthBeside(" + wrong + ", false)", x -> x.widthBeside(wrong, false));
        calls.put("widthBeside(" + wrong + ", true)", x -> x.widthBeside(wrong, true));
        return calls;
    }

    private static void thingOutOfRange() {
        states().forEach((state, make) -> {
            for (int wrong : OUT_OF_RANGE) {
                callsWith(wrong).forEach((text, call) -> isRefused(state, make, text, call));
            }
        });
    }

    private static void bothThingsOutOfRange() {
        int[] wrongs = {-1, 10, Integer.MIN_VALUE, Integer.MAX_VALUE};
        states().forEach((state, make) -> {
            for (int a : wrongs) {
                for (int b : wrongs) {
                    isRefused(state, make, "put(" + a + ", " + b + ")", x -> x.put(a, b));
                    isRefused(state, make, "before(" + a + ", " + b + ")", x -> x.before(a, b));
                }
            }
        });
    }

    private static void putOfAThingBeforeItself() {
        states().forEach((state, make) -> {
            for (int k : Orders.PLAIN) {
                isRefused(state, make, "put(" + k + ", " + k + ")", x -> x.put(k, k));
            }
        });
    }

    private static void putAgainstAPairThatWasPut() {
        for (int a : Orders.PLAIN) {
            for (int b : Orders.PLAIN) {
                if (a != b) {
                    Supplier<PosetWidth> make = () -> Orders.chain(new int[] {a, b}, 2);
                    isRefused(a + " before " + b, make, "put(" + b + ", " + a + ")", x -> x.put(b, a));
                }
            }
        }
    }

    private static void putAgainstAPairThatFollows() {
        for (int early = 0; early < 10; early++) {
            for (int late = early + 1; late < 10; late++) {
                int a = early;
                int b = late;
                isRefused("chain", Orders::chainOfTen, "put(" + b + ", " + a + ")", x -> x.put(b, a));
            }
        }
        for (int[] name : Orders.namings()) {
            Supplier<PosetWidth> make = () -> Orders.lens(name);
            String text = "put(" + name[5] + ", " + name[0] + ")";
            isRefused("lens " + Orders.text(name), make, text, x -> x.put(name[5], name[0]));
        }
    }

    private static void manyRefusedInOneRun() {
        PosetWidth x = Orders.lens();
        for (int wrong : new int[] {-1, 10}) {
            callsWith(wrong).forEach((text, call) -> CHECK.due(text + " in a run", call.applyAsInt(x), -1));
        }
        for (int k : Orders.PLAIN) {
            CHECK.due("put(" + k + ", " + k + ") in a run", x.put(k, k), -1);
        }
        CHECK.same("after many refused calls", Answers.of(x), Answers.of(Orders.lens()));
        CHECK.due("put(0, 1), which holds, after many refused calls", x.put(0, 1), 12);
        CHECK.due("put(6, 7) after many refused calls", x.put(6, 7), 13);
    }

    /**
     * Looks at one object before and after the call. A second object has the call before anything
     * was asked of it, so that the first look can't hide a change.
     */
    private static void isRefused(
            String state, Supplier<PosetWidth> make, String text, ToIntFunction<PosetWidth> call) {
        PosetWidth asked = make.get();
        List<String> before = Answers.of(asked);
        CHECK.due(state + ": " + text, call.applyAsInt(asked), -1);
        CHECK.same(state + ", after " + text, Answers.of(asked), before);

        PosetWidth unasked = make.get();
        CHECK.due(state + ": " + text + " at once", call.applyAsInt(unasked), -1);
        CHECK.same(state + ", at once after " + text, Answers.of(unasked), before);
        CHECK.due(state + ": release(3) after " + text, unasked.release(3), make.get().release(3));
    }
}
