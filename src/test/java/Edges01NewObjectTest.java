/** The edges of promise 1: what a new object has not. */
public final class Edges01NewObjectTest {
    private static final int[] PAGES = {-1, 0, 1, 2, 3, 5, 6, Integer.MIN_VALUE, Integer.MAX_VALUE};

    public static void main(String[] args) {
        Check check = new Check("edges of promise 1");
        anEmptyDocument(check);
        noPages(check);
        aReaderThatKeepsNothing(check);
        noPageFed(check);
        refusedCallsLeaveItNew(check);
        check.end();
    }

    private static void anEmptyDocument(Check check) {
        check.due("wipe() of a new object", () -> new Vault().wipe(), 0);
        check.due("load(0) of a new object", () -> new Vault().load(0), 1);
        check.throwsState("print() of a new object", () -> new Vault().print());
    }

    private static void noPages(Check check) {
        for (int page : PAGES) {
            check.throwsArgument("dot on page " + page, () -> new Vault().dot(page, 0, 0));
            check.throwsArgument("blot on page " + page, () -> new Vault().blot(page, 0, 0, 1, 1, true));
            check.throwsArgument("feed of page " + page, () -> new Vault().feed(page, 0));
            check.same("flip on page " + page, Check.answerOf(() -> new Vault().flip(page, 0, 0)),
                "throws.IllegalArgumentException");
        }
    }

    private static void aReaderThatKeepsNothing(Check check) {
        check.due("missing() of a new object", () -> new Vault().missing(), -1);
        check.due("reset() of a new object", () -> new Vault().reset(), 0);
        check.throwsState("rebuild() of a new object", () -> new Vault().rebuild());
        for (int i : new int[] {-1, 0, 1, 79, 80}) {
            check.throwsIndex("out(" + i + ") of a new object", () -> new Vault().out(i));
        }
    }

    private static void noPageFed(Check check) {
        for (int r = 0; r < 4; r++) {
            int row = r;
            check.due("errors(" + row + ") of a new object", () -> new Vault().errors(row), -2);
        }
        check.throwsArgument("errors(-1) of a new object", () -> new Vault().errors(-1));
        check.throwsArgument("errors(4) of a new object", () -> new Vault().errors(4));
    }

    private static void refusedCallsLeaveItNew(Check check) {
        Refusal fresh = new Refusal(check, "a new object", Vault::new);
        fresh.argument("load(-1)", vault -> vault.load(-1));
        fresh.argument("load(256)", vault -> vault.load(256));
        fresh.state("print()", vault -> vault.print());
        fresh.argument("dot(0, 0, 0)", vault -> vault.dot(0, 0, 0));
        fresh.argument("blot(0, 0, 0, 1, 1, true)", vault -> vault.blot(0, 0, 0, 1, 1, true));
        fresh.argument("flip(0, 0, 0)", vault -> vault.flip(0, 0, 0));
        fresh.argument("feed(0, 0)", vault -> vault.feed(0, 0));
        fresh.argument("errors(-1)", vault -> vault.errors(-1));
        fresh.argument("errors(4)", vault -> vault.errors(4));
        fresh.state("rebuild()", vault -> vault.rebuild());
        fresh.index("out(0)", vault -> vault.out(0));
    }
}
