/** Promise 10: how many pages of the document that is being read are not kept. */
public final class Promise10MissingTest {
    public static void main(String[] args) {
        Check check = new Check("promise 10");
        for (int n = 1; n <= 4; n++) {
            Vault vault = Vaults.printed(20 * n);
            check.due("missing() before any feed", () -> vault.missing(), -1);
            for (int page = n + 1; page >= 0; page--) {
                int left = page;
                vault.feed(page, page % 4);
                check.due("missing() of n " + n, () -> vault.missing(), left);
                vault.feed(n + 1, 0);
                check.due("missing() after a page that is kept", () -> vault.missing(), left);
            }
        }
        notThePrintedDocument(check);
        check.end();
    }

    private static void notThePrintedDocument(Check check) {
        Vault vault = Vaults.printed(80);
        vault.feed(4, 0);
        Vaults.printAnew(vault, Vaults.bytes(5));
        check.due("missing() after another print", () -> vault.missing(), 5);
        vault.feed(0, 0);
        check.due("missing() after a strange page", () -> vault.missing(), 5);
        Vaults.printAnew(vault, Vaults.bytes(80));
        vault.blot(1, 0, 0, 18, 18, true);
        vault.feed(1, 0);
        check.due("missing() after an unreadable page", () -> vault.missing(), 5);
        Vaults.feedAll(vault, 0, 2, 3);
        vault.rebuild();
        check.due("missing() after rebuild()", () -> vault.missing(), 2);
        vault.reset();
        check.due("missing() after reset()", () -> vault.missing(), -1);
    }
}
