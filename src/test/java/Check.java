/** What the tests share: it prints every answer that is not the one that is due, and counts them. */
final class Check {
    interface Call {
        long answer();
    }

    private final String place;
    private final boolean telling;
    private int wrong;
    private int looked;

    Check() {
        this("", true);
    }

    /** The place is told before each fault; one that tells nothing only counts. */
    Check(String place, boolean telling) {
        this.place = place;
        this.telling = telling;
    }

    void due(String what, long want, long got) {
        looked++;
        if (got != want) {
            tell(what + " answered " + got + ", due is " + want);
        }
    }

    void due(String what, boolean want, boolean got) {
        due(what, want ? 1 : 0, got ? 1 : 0);
    }

    void due(String what, String want, String got) {
        looked++;
        if (!want.equals(got)) {
            tell(what + " answered " + got + ", due is " + want);
        }
    }

    void outOfBounds(String what, Call call) {
        due(what, "throws.IndexOutOfBoundsException", outcome(call));
    }

    void illegalArgument(String what, Call call) {
        due(what, "throws.IllegalArgumentException", outcome(call));
    }

    void illegalState(String what, Call call) {
        due(what, "throws.IllegalStateException", outcome(call));
    }

    void unsupported(String what, Call call) {
        due(what, "throws.UnsupportedOperationException", outcome(call));
    }

    /** The answer, or the very class that was thrown: the machine's own ones are never due. */
    static String outcome(Call call) {
        try {
            return String.valueOf(call.answer());
        } catch (RuntimeException thrown) {
            return "throws." + thrown.getClass().getSimpleName();
        }
    }

    void tell(String fault) {
        wrong++;
        if (telling && wrong <= 50) {
            System.out.println(place + fault);
        }
    }

    int wrong() {
        return wrong;
    }

    int looked() {
        return looked;
    }

    void end() {
        System.out.println(looked + " answers looked at, " + wrong + " not as due");
        if (wrong != 0 || looked == 0) {
            System.exit(1);
        }
    }
}
