/** Promise 1: an empty document, no pages, a reader that keeps nothing. */
public final class Promise01NewObjectTest {
    public static void main(String[] args) {
        Check check = new Check("promise 1");
        Vault vault = new Vault();
        check.due("wipe()", () -> vault.wipe(), 0);
        check.throwsState("print()", () -> vault.print());
        check.throwsArgument("dot(0, 0, 0)", () -> vault.dot(0, 0, 0));
        check.throwsArgument("blot(0, 0, 0, 1, 1, true)", () -> vault.blot(0, 0, 0, 1, 1, true));
        check.same("flip(0, 0, 0)", Check.answerOf(() -> vault.flip(0, 0, 0)), "throws.IllegalArgumentException");
        check.throwsArgument("feed(0, 0)", () -> vault.feed(0, 0));
        check.due("errors of all rows", () -> Vaults.errorsOf(vault), "-2 -2 -2 -2");
        check.due("missing()", () -> vault.missing(), -1);
        check.throwsState("rebuild()", () -> vault.rebuild());
        check.throwsIndex("out(0)", () -> vault.out(0));
        check.due("reset()", () -> vault.reset(), 0);
        check.due("load(7)", () -> vault.load(7), 1);
        twoObjectsShareNothing(check);
        check.end();
    }

    private static void twoObjectsShareNothing(Check check) {
        Vault used = Vaults.printed(80);
        Vaults.feedAll(used, 0, 1, 2, 3);
        used.rebuild();
        Vault fresh = new Vault();
        check.due("missing() beside a used object", () -> fresh.missing(), -1);
        check.due("errors beside a used object", () -> fresh.errors(0), -2);
        check.throwsArgument("dot beside a used object", () -> fresh.dot(0, 0, 0));
        check.throwsIndex("out beside a used object", () -> fresh.out(0));
        check.due("load beside a used object", () -> fresh.load(1), 1);
        check.due("print beside a used object", () -> fresh.print(), 3);
        check.due("the used object's pages", () -> used.feed(5, 0), 5);
    }
}
