/** Counts and prints the answers of one test that are not the ones that are due. */
final class Checks {
    /** A call of the store whose exception is looked at. */
    interface Call {
        void run();
    }

    /** A call of the store whose answer is looked at, whether it is a number or an exception. */
    interface Asking {
        int run();
    }

    private int wrong;

    void due(String what, long want, long got) {
        if (got != want) {
            wrong++;
            System.out.println(what + " answered " + got + ", due is " + want);
        }
    }

    void due(String what, boolean want, boolean got) {
        due(what, want ? 1 : 0, got ? 1 : 0);
    }

    void dueText(String what, String want, String got) {
        if (!want.equals(got)) {
            wrong++;
            System.out.println(what + " answered " + got + ", due is " + want);
        }
    }

    void thrown(String what, String exception, Call call) {
        dueText(what, exception, thrownBy(call));
    }

    void illegalState(String what, Call call) {
        thrown(what, "IllegalStateException", call);
    }

    void outOfBounds(String what, Call call) {
        thrown(what, "IndexOutOfBoundsException", call);
    }

    void illegalArgument(String what, Call call) {
        thrown(what, "IllegalArgumentException", call);
    }

    static String answer(Asking call) {
        try {
            return Integer.toString(call.run());
        } catch (RuntimeException e) {
            return e.getClass().getSimpleName();
        }
    }

    private static String thrownBy(Call call) {
        try {
            call.run();
        } catch (RuntimeException e) {
            return e.getClass().getSimpleName();
        }
        return "nothing thrown";
    }

    void end() {
        if (wrong != 0) {
            System.out.println(wrong + " answers are not as due");
            System.exit(1);
        }
    }
}
