import java.util.NoSuchElementException;

/** Counts and prints the answers of one test that are not as due. */
final class Check {
    private final String test;
    private int asked;
    private int wrong;

    Check(String test) {
        this.test = test;
    }

    void same(String what, long got, long due) {
        asked++;
        if (got != due) {
            tellWrong(what, String.valueOf(got), String.valueOf(due));
        }
    }

    void same(String what, boolean got, boolean due) {
        asked++;
        if (got != due) {
            tellWrong(what, String.valueOf(got), String.valueOf(due));
        }
    }

    void same(String what, String got, String due) {
        asked++;
        if (!got.equals(due)) {
            tellWrong(what, got, due);
        }
    }

    void toldThrows(LetterDesk desk, int k, int what) {
        asked++;
        try {
            int got = desk.told(k, what);
            tellWrong("told(" + k + ", " + what + ")", String.valueOf(got), "NoSuchElementException");
        } catch (NoSuchElementException due) {
            // as promised
        }
    }

    void finish() {
        if (wrong != 0) {
            System.out.println(test + ": " + wrong + " of " + asked + " answers are not as due");
            System.exit(1);
        }
        System.out.println(test + ": all " + asked + " answers are as due");
    }

    private void tellWrong(String what, String got, String due) {
        wrong++;
        if (wrong <= 50) {
            System.out.println(test + ": " + what + " answered " + got + ", due is " + due);
        }
    }
}
