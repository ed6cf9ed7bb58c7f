import java.util.ArrayList;
import java.util.List;

/** What an object answers to each call that only asks: its whole state, as seen from outside. */
final class Answers {
    /** How many calls one look takes: tests keep an object below its 512. */
    static final int CALLS = 162;

    private Answers() {
    }

    static List<String> of(PosetWidth x) {
        List<String> answers = new ArrayList<>();
        for (int a = 0; a < 10; a++) {
            for (int b = 0; b < 10; b++) {
                answers.add("before(" + a + ", " + b + ") = " + x.before(a, b));
            }
            answers.add("widthWith(" + a + ") = " + x.widthWith(a));
            answers.add("widthWithout(" + a + ") = " + x.widthWithout(a));
            answers.add("chosen(" + a + ") = " + x.chosen(a));
            answers.add("heightWith(" + a + ") = " + x.heightWith(a));
            answers.add("widthBeside(" + a + ", false) = " + x.widthBeside(a, false));
            answers.add("widthBeside(" + a + ", true) = " + x.widthBeside(a, true));
        }
        answers.add("width() = " + x.width());
        answers.add("height() = " + x.height());
        return answers;
    }
}
