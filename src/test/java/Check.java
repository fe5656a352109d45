/** Counts the answers that are not the ones due, and tells of each. */
final class Check {
    /** A call whose answer is looked at. */
    interface Call {
        Object run();
    }

    /** A call that answers nothing. */
    interface Deed {
        void run();
    }

    private final String name;
    private int calls = 0;
    private int wrong = 0;

    Check(String name) {
        this.name = name;
    }

    /** The answer as a text; that of a call that throws is throws.NameOfTheException. */
    static String answer(Call call) {
        try {
            return String.valueOf(call.run());
        } catch (RuntimeException e) {
            return "throws." + e.getClass().getSimpleName();
        }
    }

    static String answerOf(Deed deed) {
        return answer(() -> {
            deed.run();
            return "nothing";
        });
    }

    void due(String what, Call call, Object want) {
        same(what, answer(call), String.valueOf(want));
    }

    void throwsArgument(String what, Call call) {
        same(what, answer(call), "throws.IllegalArgumentException");
    }

    void throwsState(String what, Call call) {
        same(what, answer(call), "throws.IllegalStateException");
    }

    void throwsIndex(String what, Call call) {
        same(what, answer(call), "throws.IndexOutOfBoundsException");
    }

    void same(String what, Object got, Object want) {
        calls++;
        if (!got.equals(want)) {
            wrong++;
            System.out.println(name + ": " + what + " answered " + got + ", due is " + want);
        }
    }

    void end() {
        System.out.println(name + ": " + calls + " answers, " + wrong + " of them wrong");
        if (wrong != 0 || calls == 0) {
            System.exit(1);
        }
    }
}
