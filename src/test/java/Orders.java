import java.util.ArrayList;
import java.util.Arrays;
import java.util.List;

/** The orders that several tests start from, and namings that put any thing at any place of them. */
final class Orders {
    /** The things under their own names: place k is held by thing k. */
    static final int[] PLAIN = {0, 1, 2, 3, 4, 5, 6, 7, 8, 9};

    private Orders() {
    }

    /** Forty namings: each thing stands at each place, up and down, next to near and far ones. */
    static List<int[]> namings() {
        List<int[]> namings = new ArrayList<>();
        for (int step : new int[] {1, 3, 7, 9}) {
            for (int shift = 0; shift < 10; shift++) {
                int[] name = new int[10];
                for (int place = 0; place < 10; place++) {
                    name[place] = (place * step + shift) % 10;
                }
                namings.add(name);
            }
        }
        return namings;
    }

    static PosetWidth chainOfTen() {
        return chain(PLAIN, 10);
    }

    /** The first length places are one chain, the others are comparable with none. */
    static PosetWidth chain(int[] name, int length) {
        PosetWidth x = new PosetWidth();
        for (int place = 0; place < length - 1; place++) {
            x.put(name[place], name[place + 1]);
        }
        return x;
    }

    static PosetWidth lens() {
        return lens(PLAIN);
    }

    /** Place 0 before 1, 2 and 3; each of these before 4; 4 before 5: 12 pairs, of which 7 are put. */
    static PosetWidth lens(int[] name) {
        PosetWidth x = new PosetWidth();
        putLens(x, name);
        return x;
    }

    static void putLens(PosetWidth x, int[] name) {
        for (int middle = 1; middle <= 3; middle++) {
            x.put(name[0], name[middle]);
            x.put(name[middle], name[4]);
        }
        x.put(name[4], name[5]);
    }

    /** Each thing of a level comes before each of the next level. */
    static PosetWidth levels(int[]... levels) {
        PosetWidth x = new PosetWidth();
        for (int k = 0; k + 1 < levels.length; k++) {
            for (int a : levels[k]) {
                for (int b : levels[k + 1]) {
                    x.put(a, b);
                }
            }
        }
        return x;
    }

    /** The things at the places from first up to but without end. */
    static int[] part(int[] name, int first, int end) {
        return Arrays.copyOfRange(name, first, end);
    }

    /** The number of a set: the sum of 2^k over its things k. */
    static int number(int... things) {
        int number = 0;
        for (int k : things) {
            number += 1 << k;
        }
        return number;
    }

    static String text(int[] name) {
        return Arrays.toString(name);
    }
}
