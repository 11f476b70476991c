/** Counts and prints answers that are not as due. */
final class Checks {
    /** A call whose exception, if it throws one, is looked at. */
    interface Call {
        Object answer();
    }

    private int checked;
    private int wrong;

    void same(String what, Object got, Object due) {
        checked++;
        if (!got.equals(due)) {
            wrong++;
            System.out.println(what + " answered " + got + ", due is " + due);
        }
    }

    void noSuchIndex(String what, Call call) {
        same(what, outcomeOf(call), "throws.ArrayIndexOutOfBoundsException");
    }

    void noSuchArgument(String what, Call call) {
        same(what, outcomeOf(call), "throws.IllegalArgumentException");
    }

    static Object outcomeOf(Call call) {
        try {
            return call.answer();
        } catch (RuntimeException e) {
            return "throws." + e.getClass().getSimpleName();
        }
    }

    int wrong() {
        return wrong;
    }

    void end() {
        System.out.println(checked - wrong + " of " + checked + " answers are as due");
        if (wrong != 0 || checked == 0) {
            System.exit(1);
        }
    }
}
