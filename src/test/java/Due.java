/** Counts and prints the answers that are not the ones that are due. */
final class Due {
    interface Call {
        long answer();
    }

    /** Makes a fair; each time the same. */
    interface Maker {
        PrizePurses make();
    }

    interface CallOn {
        long answer(PrizePurses x);
    }

    private int wrong = 0;
    private int asked = 0;
    private String about = "";

    /** What the next answers are about stands before each that is printed. */
    void about(String words) {
        about = words;
    }

    void is(String what, long got, long want) {
        asked++;
        if (got != want) {
            wrong++;
            System.out.println(about + what + " answered " + got + ", due is " + want);
        }
    }

    void is(String what, boolean got, boolean want) {
        is(what, got ? 1 : 0, want ? 1 : 0);
    }

    void is(String what, String got, String want) {
        asked++;
        if (!got.equals(want)) {
            wrong++;
            System.out.println(about + what + " answered\n  " + got + "\ndue is\n  " + want);
        }
    }

    /** Returns the name of the exception that the call throws, or what it answers. */
    static String outcome(Call call) {
        try {
            return "answered " + call.answer();
        } catch (RuntimeException e) {
            return e.getClass().getSimpleName();
        }
    }

    /** The call throws just this exception, and some answers are the same afterwards; refused asks for all. */
    void fails(PrizePurses x, String what, Class<? extends RuntimeException> want, Call call) {
        String before = Answers.few(x);
        is(what, outcome(call), want.getSimpleName());
        is(what + ": the state after it", Answers.few(x), before);
    }

    void noIndex(PrizePurses x, String what, Call call) {
        fails(x, what, IndexOutOfBoundsException.class, call);
    }

    void noArgument(PrizePurses x, String what, Call call) {
        fails(x, what, IllegalArgumentException.class, call);
    }

    void noState(PrizePurses x, String what, Call call) {
        fails(x, what, IllegalStateException.class, call);
    }

    /**
     * The call throws just this exception, and then the fair answers like one that was made the same
     * way without it. Each question is put to few fairs, so that none has more than 512 calls.
     */
    void refused(String what, Class<? extends RuntimeException> want, Maker fair, CallOn call) {
        PrizePurses x = fair.make();
        is(what, outcome(() -> call.answer(x)), want.getSimpleName());
        is(what + ": the state after it", Answers.of(x), Answers.of(fair.make()));
    }

    void noIndex(String what, Maker fair, CallOn call) {
        refused(what, IndexOutOfBoundsException.class, fair, call);
    }

    void noArgument(String what, Maker fair, CallOn call) {
        refused(what, IllegalArgumentException.class, fair, call);
    }

    void noState(String what, Maker fair, CallOn call) {
        refused(what, IllegalStateException.class, fair, call);
    }

    /** The call throws nothing; what it answers is asked elsewhere. */
    void taken(String what, Call call) {
        String outcome = outcome(call);
        is(what, outcome.startsWith("answered") ? "answered" : outcome, "answered");
    }

    /** Returns how many answers have not been as due so far. */
    int wrong() {
        return wrong;
    }

    void end() {
        System.out.println(asked + " answers, " + wrong + " not as due");
        if (wrong != 0) {
            System.exit(1);
        }
    }
}
