/** Counts and prints the answers that are not the ones that are due. */
final class Due {
    interface Call {
        long answer();
    }

    private int wrong = 0;
    private int asked = 0;

    void is(String what, long got, long want) {
        asked++;
        if (got != want) {
            wrong++;
            System.out.println(what + " answered " + got + ", due is " + want);
        }
    }

    void is(String what, boolean got, boolean want) {
        is(what, got ? 1 : 0, want ? 1 : 0);
    }

    void is(String what, String got, String want) {
        asked++;
        if (!got.equals(want)) {
            wrong++;
            System.out.println(what + " answered\n  " + got + "\ndue is\n  " + want);
        }
    }

    /** The call throws just this exception, and every answer of the object is the same afterwards. */
    void fails(PrizePurses x, String what, Class<? extends RuntimeException> want, Call call) {
        String before = Answers.of(x);
        String got = "answered";
        try {
            got = "answered " + call.answer();
        } catch (RuntimeException e) {
            got = e.getClass().getSimpleName();
        }
        is(what, got, want.getSimpleName());
        is(what + ": the state after it", Answers.of(x), before);
    }

    void noIndex(PrizePurses x, String what, Call call) {
        fails(x, what, IndexOutOfBoundsException.class, call);
    }

    void noArgument(PrizePurses x, String what, Call call) {
        fails(x, what, IllegalArgumentException.class, call);
    }

    void noState(PrizePurses x, String what, Call call) {
        fails(x, what, IllegalStateException.class, call);
    }

    void end() {
        System.out.println(asked + " answers, " + wrong + " not as due");
        if (wrong != 0) {
            System.exit(1);
        }
    }
}
