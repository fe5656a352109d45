/** The edges of promise 10: none kept; all kept. */
public final class Edges10MissingTest {
    public static void main(String[] args) {
        Check check = new Check("edges of promise 10");
        noneKept(check);
        noneKeptThoughFed(check);
        oneKept(check);
        allKept(check);
        ofTheDocumentThatIsBeingRead(check);
        changesNothing(check);
        check.end();
    }

    private static void noneKept(Check check) {
        check.due("missing() of a new object", () -> new Vault().missing(), -1);
        check.due("missing() of a full document", () -> Vaults.loaded(80).missing(), -1);
        for (int n = 1; n <= 4; n++) {
            int length = 20 * n;
            check.due("missing() of printed pages", () -> Vaults.printed(length).missing(), -1);
            Vault vault = Vaults.printed(length);
            Vaults.feedAll(vault, 0, 1, 2);
            vault.reset();
            check.due("missing() after reset()", () -> vault.missing(), -1);
        }
    }

    private static void noneKeptThoughFed(Check check) {
        Vault vault = Vaults.printed(20);
        vault.blot(0, 0, 0, 18, 18, true);
        Vaults.ruinRow(vault, 1, 2);
        Vaults.changeHead(vault, 2, new int[] {2, 1, 20}, new int[] {3, 1, 20});
        for (int page = 0; page < 3; page++) {
            vault.feed(page, 0);
            check.due("missing() after an unreadable page", () -> vault.missing(), -1);
        }
        check.throwsArgument("feed(3, 0)", () -> vault.feed(3, 0));
        check.due("missing() after a feed that is refused", () -> vault.missing(), -1);
    }

    private static void oneKept(Check check) {
        for (int n = 1; n <= 4; n++) {
            for (int length : new int[] {20 * n - 19, 20 * n}) {
                for (int page = 0; page < n + 2; page++) {
                    Vault vault = Vaults.printed(length);
                    vault.feed(page, 0);
                    check.due("missing() when one of " + length + " is kept", () -> vault.missing(), n + 1);
                    vault.feed(page, 1);
                    check.due("missing() when it is fed again", () -> vault.missing(), n + 1);
                }
            }
        }
    }

    private static void allKept(Check check) {
        for (int n = 1; n <= 4; n++) {
            for (int length : new int[] {20 * n - 19, 20 * n}) {
                Vault vault = Vaults.printed(length);
                for (int page = 0; page < n + 2; page++) {
                    int left = n + 1 - page;
                    vault.feed(page, page % 4);
                    check.due("missing() of " + length, () -> vault.missing(), left);
                }
                for (int page = 0; page < n + 2; page++) {
                    vault.feed(page, 0);
                    check.due("missing() of " + length + " when all are kept", () -> vault.missing(), 0);
                }
                vault.rebuild();
                check.due("missing() after rebuild()", () -> vault.missing(), 0);
            }
        }
    }

    /** It is neither the one that was printed last nor the one that is loaded. */
    private static void ofTheDocumentThatIsBeingRead(Check check) {
        Vault vault = Vaults.printed(80);
        vault.feed(0, 0);
        Vaults.printAnew(vault, Vaults.bytes(1));
        check.due("missing() of 80 when 1 is printed", () -> vault.missing(), 5);
        vault.feed(0, 0);
        check.due("missing() of 80 after a strange page", () -> vault.missing(), 5);
        vault.reset();
        vault.feed(0, 0);
        check.due("missing() of the one that is printed", () -> vault.missing(), 2);
        vault.wipe();
        check.due("missing() after wipe()", () -> vault.missing(), 2);
    }

    private static void changesNothing(Check check) {
        Looks.Start asked = () -> {
            Vault vault = Vaults.busy();
            vault.missing();
            return vault;
        };
        check.same("what is seen after missing()", Looks.all(asked), Looks.all(Vaults::busy));
    }
}
