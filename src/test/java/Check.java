import java.util.List;

/** Counts and prints the answers that are not as due. */
final class Check {
    private final String subject;
    private int checked = 0;
    private int wrong = 0;

    Check(String subject) {
        this.subject = subject;
    }

    void due(String call, long got, long want) {
        checked++;
        if (got != want) {
            wrong++;
            System.out.println(subject + ": " + call + " answered " + got + ", due is " + want);
        }
    }

    void holds(String claim, boolean isSo) {
        checked++;
        if (!isSo) {
            wrong++;
            System.out.println(subject + ": it does not hold that " + claim);
        }
    }

    void same(String when, List<String> got, List<String> want) {
        for (int k = 0; k < want.size(); k++) {
            checked++;
            if (!got.get(k).equals(want.get(k))) {
                wrong++;
                System.out.println(subject + ": " + when + ": " + got.get(k) + ", due is " + want.get(k));
            }
        }
    }

    void end() {
        System.out.println(subject + ": " + checked + " checked, " + wrong + " wrong");
        if (wrong != 0 || checked == 0) {
            System.exit(1);
        }
    }
}
