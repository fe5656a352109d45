import java.util.List;

/** A state in which calls are refused: after such a call all answers must be those of an object spared it. */
final class Refusal {
    /** A call whose answer does not matter. */
    interface Use {
        void on(Vault vault);
    }

    private final Check check;
    private final String state;
    private final Looks.Start start;
    private final List<String> before;

    Refusal(Check check, String state, Looks.Start start) {
        this.check = check;
        this.state = state;
        this.start = start;
        this.before = Looks.all(start);
    }

    void argument(String call, Use use) {
        refuses(call, use, "throws.IllegalArgumentException");
    }

    void state(String call, Use use) {
        refuses(call, use, "throws.IllegalStateException");
    }

    void index(String call, Use use) {
        refuses(call, use, "throws.IndexOutOfBoundsException");
    }

    private void refuses(String call, Use use, String exception) {
        List<String> after = Looks.all(() -> {
            Vault vault = start.make();
            check.same(state + ": " + call, Check.answerOf(() -> use.on(vault)), exception);
            return vault;
        });
        check.same(state + ": what is seen after " + call, after, before);
    }
}
