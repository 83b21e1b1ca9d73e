/** Counts the answers that are not as due; a test ends with exit code 1 if there was one. */
final class Checks {
    interface Call {
        int answer();
    }

    private int made;
    private int wrong;

    /** A new object with so many notes, each 10 wide and of length 1. */
    static WordRows withNotes(int n) {
        WordRows rows = new WordRows();
        for (int i = 0; i < n; i++) {
            rows.note(10, 1, false);
        }
        return rows;
    }

    void due(String call, int got, int want) {
        made++;
        if (got != want) {
            tellWrong(call + " answered " + got + ", due is " + want);
        }
    }

    void isTrue(String what, boolean is) {
        made++;
        if (!is) {
            tellWrong("not so: " + what);
        }
    }

    void throwsIndex(String call, Call made) {
        throwsDue(call, made, ArrayIndexOutOfBoundsException.class);
    }

    void throwsArithmetic(String call, Call made) {
        throwsDue(call, made, ArithmeticException.class);
    }

    private void throwsDue(String call, Call toMake, Class<? extends RuntimeException> want) {
        made++;
        try {
            int got = toMake.answer();
            tellWrong(call + " answered " + got + ", due is " + want.getName());
        } catch (RuntimeException e) {
            if (e.getClass() != want) {
                tellWrong(call + " threw " + e + ", due is " + want.getName());
            } else if (isOfTheMachine(e)) {
                tellWrong(call + " let the machine throw: " + e);
            }
        }
    }

    /** What the machine throws itself bears texts of its own, which the class does not write. */
    static boolean isOfTheMachine(RuntimeException e) {
        String text = e.getMessage();
        return text == null || text.startsWith("Index ") || text.equals("/ by zero");
    }

    private void tellWrong(String text) {
        wrong++;
        if (wrong <= 50) {
            System.out.println(text);
        }
    }

    void end() {
        System.out.println(made + " checks, " + wrong + " wrong");
        if (wrong != 0 || made == 0) {
            System.exit(1);
        }
    }
}
