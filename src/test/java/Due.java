import java.util.List;

/** Counts and prints the answers that are not the ones due. */
final class Due {
    private int wrong;

    void is(String call, long got, long want) {
        if (got != want) {
            wrong++;
            System.out.println(call + " answered " + got + ", due is " + want);
        }
    }

    void yes(String call, boolean got) {
        is(call, got ? 1 : 0, 1);
    }

    void no(String call, boolean got) {
        is(call, got ? 1 : 0, 0);
    }

    /** The first line that is not the one due is printed. */
    void same(String when, List<String> got, List<String> want) {
        if (got.equals(want)) {
            return;
        }
        int line = 0;
        while (line < got.size() && line < want.size() && got.get(line).equals(want.get(line))) {
            line++;
        }
        wrong++;
        System.out.println(when + ": " + (line < got.size() ? got.get(line) : "nothing more")
                + ", due is " + (line < want.size() ? want.get(line) : "nothing more"));
    }

    int wrong() {
        return wrong;
    }

    void end() {
        System.out.println(wrong == 0 ? "all answers are as due" : wrong + " answers are not as due");
        if (wrong != 0) {
            System.exit(1);
        }
    }
}
