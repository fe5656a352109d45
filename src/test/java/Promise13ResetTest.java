/** Promise 13: the reader keeps nothing, and nothing is rebuilt. */
public final class Promise13ResetTest {
    public static void main(String[] args) {
        Check check = new Check("promise 13");
        for (int pages = 0; pages <= 6; pages++) {
            Vault vault = Vaults.printed(80);
            for (int page = 0; page < pages; page++) {
                vault.feed(page, 1);
                vault.feed(0, 2);
            }
            check.due("reset() of " + pages, () -> vault.reset(), pages);
            check.due("reset() again", () -> vault.reset(), 0);
            check.due("missing() then", () -> vault.missing(), -1);
            check.throwsState("rebuild() then", () -> vault.rebuild());
        }
        readsAnotherDocument(check);
        leavesTheRest(check);
        check.end();
    }

    private static void readsAnotherDocument(Check check) {
        Vault vault = Vaults.printed(80);
        Vaults.feedAll(vault, 0, 1, 2, 3);
        vault.rebuild();
        vault.reset();
        check.throwsIndex("out(0) after reset()", () -> vault.out(0));
        Vaults.printAnew(vault, Vaults.bytes(41).subList(1, 41));
        check.due("a page with another n", () -> vault.feed(2, 0), 2);
        check.due("missing()", () -> vault.missing(), 3);
        check.throwsState("rebuild() of too few", () -> vault.rebuild());
        vault.feed(3, 0);
        check.due("rebuild()", () -> Vaults.rebuilt(vault), Vaults.bytes(41).subList(1, 41));
    }

    private static void leavesTheRest(Check check) {
        Vault vault = Vaults.printed(30);
        vault.flip(0, 3, 3);
        boolean[][] page = Vaults.cleanDots(30, 0);
        page[3][3] = !page[3][3];
        vault.feed(0, 0);
        String errors = Vaults.errorsOf(vault);
        check.due("reset()", () -> vault.reset(), 1);
        check.due("the page", () -> Vaults.picture(vault, 0), Vaults.picture(page));
        check.due("the errors", () -> Vaults.errorsOf(vault), errors);
        check.due("the document", () -> vault.load(1), 31);
        check.due("feed(0, 0)", () -> vault.feed(0, 0), 0);
    }
}
