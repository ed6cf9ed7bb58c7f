/** For each promise of the document: ordinary inputs, with answers worked out by hand. */
public final class PromisesTest {
    private static final Check CHECK = new Check("promises");

    public static void main(String[] args) {
        promise1NewObject();
        promise2Put();
        promise2PutOfWhatFollows();
        promise2PutRefused();
        promise3Release();
        promise3ReleaseEdges();
        promise4Before();
        promise5Width();
        promise6WidthWith();
        promise7WidthWithout();
        promise8Chosen();
        promise8ChosenIsTheLeastNumber();
        promise9Height();
        promise10HeightWith();
        promise11WidthBeside();
        objectsAreApart();
        CHECK.end();
    }

    private static void due(int promise, String call, long got, long want) {
        CHECK.due("promise " + promise + ": " + call, got, want);
    }

    private static void promise1NewObject() {
        PosetWidth x = new PosetWidth();
        for (int a = 0; a < 10; a++) {
            for (int b = 0; b < 10; b++) {
                due(1, "before(" + a + ", " + b + ")", x.before(a, b), 0);
            }
        }
        due(1, "width()", x.width(), 10);
        due(1, "height()", x.height(), 1);
        for (int k = 0; k < 10; k++) {
            due(1, "widthWith(" + k + ")", x.widthWith(k), 10);
            due(1, "widthWithout(" + k + ")", x.widthWithout(k), 9);
            due(1, "chosen(" + k + ")", x.chosen(k), 1);
            due(1, "heightWith(" + k + ")", x.heightWith(k), 1);
            due(1, "widthBeside(" + k + ", false)", x.widthBeside(k, false), 0);
            due(1, "widthBeside(" + k + ", true)", x.widthBeside(k, true), 0);
            due(1, "release(" + k + ")", x.release(k), 0);
        }
    }

    private static void promise2Put() {
        PosetWidth x = new PosetWidth();
        due(2, "put(2, 7)", x.put(2, 7), 1);
        due(2, "before(2, 7)", x.before(2, 7), 1);
        due(2, "before(7, 2)", x.before(7, 2), 0);
        due(2, "put(9, 0)", x.put(9, 0), 2);
        due(2, "put(2, 7) again", x.put(2, 7), 2);
        due(2, "before(2, 7) still", x.before(2, 7), 1);
    }

    private static void promise2PutOfWhatFollows() {
        PosetWidth x = new PosetWidth();
        x.put(0, 1);
        due(2, "put(1, 2) brings 0 before 2", x.put(1, 2), 3);
        due(2, "before(0, 2)", x.before(0, 2), 1);
        due(2, "put(0, 2) which followed", x.put(0, 2), 3);
        x.put(6, 5);
        due(2, "put(5, 4)", x.put(5, 4), 6);
        due(2, "put(2, 6) joins two chains of three", x.put(2, 6), 15);
        for (int a = 0; a < 3; a++) {
            for (int b = 4; b < 7; b++) {
                due(2, "before(" + a + ", " + b + ")", x.before(a, b), 1);
                due(2, "before(" + b + ", " + a + ")", x.before(b, a), 0);
            }
        }
        due(2, "put(9, 8)", x.put(9, 8), 16);
        due(2, "put(9, 5) leaves 6 out", x.put(9, 5), 18);
        due(2, "before(9, 6)", x.before(9, 6), 0);
        due(2, "before(9, 4)", x.before(9, 4), 1);
        due(2, "before(8, 4)", x.before(8, 4), 0);
    }

    private static void promise2PutRefused() {
        PosetWidth x = new PosetWidth();
        due(2, "put(3, 3)", x.put(3, 3), -1);
        due(2, "before(3, 3)", x.before(3, 3), 0);
        x.put(0, 1);
        x.put(1, 2);
        due(2, "put(1, 0)", x.put(1, 0), -1);
        due(2, "put(2, 0)", x.put(2, 0), -1);
        due(2, "put(1, 1)", x.put(1, 1), -1);
        due(2, "before(1, 0)", x.before(1, 0), 0);
        due(2, "before(2, 0)", x.before(2, 0), 0);
        due(2, "before(1, 1)", x.before(1, 1), 0);
        due(2, "put(0, 1) after the refused", x.put(0, 1), 3);
    }

    private static void promise3Release() {
        PosetWidth x = new PosetWidth();
        x.put(0, 1);
        x.put(1, 2);
        x.put(2, 3);
        due(3, "release(1)", x.release(1), 3);
        due(3, "before(0, 1)", x.before(0, 1), 0);
        due(3, "before(1, 2)", x.before(1, 2), 0);
        due(3, "before(1, 3)", x.before(1, 3), 0);
        due(3, "before(0, 2), which came through 1,", x.before(0, 2), 1);
        due(3, "before(0, 3)", x.before(0, 3), 1);
        due(3, "before(2, 3)", x.before(2, 3), 1);
        due(3, "release(1) again", x.release(1), 3);
        due(3, "put(3, 1) the other way round", x.put(3, 1), 6);
        due(3, "release(3) at an inner place", x.release(3), 3);
        due(3, "before(0, 1), which came through 3,", x.before(0, 1), 1);
        due(3, "release(0) at the start of the order", x.release(0), 1);
        due(3, "release(1) at the end of the order", x.release(1), 0);
    }

    private static void promise3ReleaseEdges() {
        PosetWidth x = new PosetWidth();
        due(3, "release(4) of a thing comparable with none", x.release(4), 0);
        x.put(0, 9);
        due(3, "release(4) beside a pair", x.release(4), 1);
        due(3, "release(9)", x.release(9), 0);
        x.put(0, 9);
        due(3, "release(0)", x.release(0), 0);
        due(3, "put(9, 0) once free", x.put(9, 0), 1);
    }

    private static void promise4Before() {
        PosetWidth x = new PosetWidth();
        x.put(9, 0);
        x.put(0, 5);
        due(4, "before(9, 0)", x.before(9, 0), 1);
        due(4, "before(9, 5)", x.before(9, 5), 1);
        due(4, "before(0, 9)", x.before(0, 9), 0);
        due(4, "before(5, 9)", x.before(5, 9), 0);
        due(4, "before(1, 2)", x.before(1, 2), 0);
        due(4, "before(9, 9)", x.before(9, 9), 0);
        due(4, "before(10, 10)", x.before(10, 10), -1);
    }

    private static void promise5Width() {
        PosetWidth x = Orders.lens();
        due(5, "width()", x.width(), 7);
        x.put(5, 6);
        x.put(6, 7);
        x.put(7, 8);
        due(5, "width()", x.width(), 4);
        x.put(8, 9);
        due(5, "width()", x.width(), 3);
        due(5, "width() of a chain of all", Orders.chainOfTen().width(), 1);
        x = Orders.chainOfTen();
        x.release(4);
        due(5, "width() of a chain and one more", x.width(), 2);
    }

    private static void promise6WidthWith() {
        PosetWidth x = Orders.lens();
        due(6, "widthWith(0)", x.widthWith(0), 5);
        due(6, "widthWith(1)", x.widthWith(1), 7);
        due(6, "widthWith(4)", x.widthWith(4), 5);
        due(6, "widthWith(9)", x.widthWith(9), 7);
        for (int k = 0; k < 10; k++) {
            due(6, "widthWith(" + k + ") in a chain", Orders.chainOfTen().widthWith(k), 1);
        }
    }

    private static void promise7WidthWithout() {
        PosetWidth x = Orders.lens();
        due(7, "widthWithout(0)", x.widthWithout(0), 7);
        due(7, "widthWithout(1)", x.widthWithout(1), 6);
        due(7, "widthWithout(5)", x.widthWithout(5), 7);
        due(7, "widthWithout(9)", x.widthWithout(9), 6);
        for (int k = 0; k < 10; k++) {
            due(7, "widthWithout(" + k + ") in a chain", Orders.chainOfTen().widthWithout(k), 1);
        }
    }

    private static void dueChosen(String order, PosetWidth x, int number) {
        for (int k = 0; k < 10; k++) {
            due(8, order + ": chosen(" + k + ")", x.chosen(k), number >> k & 1);
        }
    }

    private static void promise8Chosen() {
        dueChosen("lens", Orders.lens(), 0b1111001110);
        dueChosen("chain", Orders.chainOfTen(), 0b0000000001);
        PosetWidth x = Orders.chainOfTen();
        x.release(9);
        dueChosen("chain and 9", x, 0b1000000001);
    }

    private static void promise8ChosenIsTheLeastNumber() {
        PosetWidth x = new PosetWidth();
        x.put(9, 0);
        dueChosen("9 before 0", x, 0b0111111111);
        x = new PosetWidth();
        x.put(0, 9);
        dueChosen("0 before 9", x, 0b0111111111);
        // {0, 9} and {1, 2} are of the same size: the number decides, not the least thing.
        x = new PosetWidth();
        for (int k = 3; k < 9; k++) {
            x.put(k, k == 8 ? 0 : k + 1);
            x.put(k, 9);
        }
        x.put(0, 1);
        x.put(0, 2);
        x.put(9, 1);
        x.put(9, 2);
        due(8, "width() with {0, 9} and {1, 2}", x.width(), 2);
        dueChosen("{1, 2} against {0, 9}", x, 0b0000000110);
        x.put(1, 2);
        dueChosen("{0, 9} alone", x, 0b1000000001);
    }

    private static void promise9Height() {
        PosetWidth x = Orders.lens();
        due(9, "height()", x.height(), 4);
        x.put(1, 2);
        due(9, "height() with 1 before 2", x.height(), 5);
        x.put(9, 0);
        due(9, "height() with 9 at the start", x.height(), 6);
        x.release(4);
        due(9, "height() without 4", x.height(), 5);
        due(9, "height() of a chain of all", Orders.chainOfTen().height(), 10);
        x = new PosetWidth();
        for (int k = 1; k < 10; k++) {
            x.put(0, k);
        }
        due(9, "height() of a star", x.height(), 2);
    }

    private static void promise10HeightWith() {
        PosetWidth x = Orders.lens();
        x.put(6, 7);
        x.put(8, 5);
        int[] want = {4, 4, 4, 4, 4, 4, 2, 2, 2, 1};
        for (int k = 0; k < 10; k++) {
            due(10, "heightWith(" + k + ")", x.heightWith(k), want[k]);
            due(10, "heightWith(" + k + ") in a chain", Orders.chainOfTen().heightWith(k), 10);
        }
    }

    private static void promise11WidthBeside() {
        PosetWidth x = Orders.lens();
        int[] wantBefore = {0, 1, 1, 1, 3, 3, 0, 0, 0, 0};
        int[] wantAfter = {3, 1, 1, 1, 1, 0, 0, 0, 0, 0};
        for (int k = 0; k < 10; k++) {
            due(11, "widthBeside(" + k + ", false)", x.widthBeside(k, false), wantBefore[k]);
            due(11, "widthBeside(" + k + ", true)", x.widthBeside(k, true), wantAfter[k]);
        }
        x = new PosetWidth();
        for (int k = 0; k < 9; k++) {
            x.put(k, 9);
        }
        due(11, "widthBeside(9, false) under nine", x.widthBeside(9, false), 9);
        due(11, "widthBeside(9, true)", x.widthBeside(9, true), 0);
        due(11, "widthBeside(0, true)", x.widthBeside(0, true), 1);
    }

    private static void objectsAreApart() {
        PosetWidth x = new PosetWidth();
        PosetWidth y = new PosetWidth();
        x.put(0, 1);
        due(1, "before(0, 1) on another object", y.before(0, 1), 0);
        due(1, "put(1, 0) on another object", y.put(1, 0), 1);
        due(1, "before(0, 1) on the first object", x.before(0, 1), 1);
    }
}
