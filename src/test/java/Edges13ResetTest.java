/** The edges of promise 13: a reader that keeps nothing; errors, pages and the document afterwards. */
public final class Edges13ResetTest {
    public static void main(String[] args) {
        Check check = new Check("edges of promise 13");
        aReaderThatKeepsNothing(check);
        keepingNothingChangesNothing(check);
        fromOneToAllPages(check);
        keepsNothingAfterwards(check);
        nothingIsRebuiltAfterwards(check);
        errorsAfterwards(check);
        pagesAndDocumentAfterwards(check);
        anotherDocumentAfterwards(check);
        theSamePagesAfterwards(check);
        check.end();
    }

    private static void aReaderThatKeepsNothing(Check check) {
        check.due("reset() of a new object", () -> new Vault().reset(), 0);
        check.due("reset() of a full document", () -> Vaults.loaded(80).reset(), 0);
        check.due("reset() of printed pages", () -> Vaults.printed(80).reset(), 0);
        Vault unreadable = Vaults.printed(20);
        Vaults.ruinRow(unreadable, 0, 1);
        unreadable.feed(0, 0);
        check.due("reset() after an unreadable page", () -> unreadable.reset(), 0);
        Vault twice = Vaults.busy();
        twice.reset();
        check.due("reset() after reset()", () -> twice.reset(), 0);
    }

    private static void keepingNothingChangesNothing(Check check) {
        check.same("a new object", Looks.all(() -> afterReset(new Vault())), Looks.all(Vault::new));
        check.same("printed pages", Looks.all(() -> afterReset(Vaults.printed(45))),
            Looks.all(() -> Vaults.printed(45)));
        check.same("reset() twice", Looks.all(() -> afterReset(afterReset(Vaults.busy()))),
            Looks.all(() -> afterReset(Vaults.busy())));
    }

    private static Vault afterReset(Vault vault) {
        vault.reset();
        return vault;
    }

    private static void fromOneToAllPages(Check check) {
        for (int n = 1; n <= 4; n++) {
            for (int pages = 1; pages <= n + 2; pages++) {
                int count = pages;
                Vault vault = Vaults.printed(20 * n);
                for (int page = 0; page < pages; page++) {
                    vault.feed(page, 0);
                    vault.feed(page, 1);
                }
                check.due("reset() when " + count + " with n " + n + " are kept", () -> vault.reset(), count);
            }
        }
        Vault strange = Vaults.printed(20);
        strange.feed(0, 0);
        Vaults.printAnew(strange, Vaults.bytes(19));
        Vaults.feedAll(strange, 0, 1, 2);
        check.due("reset() after strange pages", () -> strange.reset(), 1);
    }

    private static void keepsNothingAfterwards(Check check) {
        Vault vault = afterReset(Vaults.busy());
        check.due("missing() after reset()", () -> vault.missing(), -1);
        check.throwsState("rebuild() after reset()", () -> vault.rebuild());
        check.due("reset() again", () -> vault.reset(), 0);
    }

    private static void nothingIsRebuiltAfterwards(Check check) {
        Vault vault = afterReset(Vaults.busy());
        for (int i = -1; i <= 80; i++) {
            int at = i;
            check.throwsIndex("out(" + at + ") after reset()", () -> vault.out(at));
        }
    }

    /** The page that was fed last is still that one, and the document does not say that reset forgets it. */
    private static void errorsAfterwards(Check check) {
        Vault corrected = Vaults.printed(20);
        Vaults.addToSymbol(corrected, 0, 1, 2, 3);
        Vaults.ruinRow(corrected, 0, 2);
        corrected.feed(0, 0);
        String errors = Vaults.errorsOf(corrected);
        check.same("errors before reset()", errors, "0 1 -1 0");
        check.due("errors after reset()", () -> Vaults.errorsOf(afterReset(corrected)), errors);
        Vault unreadable = Vaults.printed(20);
        unreadable.blot(0, 0, 0, 18, 1, false);
        unreadable.feed(0, 0);
        check.due("errors of an unreadable frame", () -> Vaults.errorsOf(afterReset(unreadable)), "-2 -2 -2 -2");
        check.due("errors when none was fed", () -> Vaults.errorsOf(afterReset(Vaults.printed(20))), "-2 -2 -2 -2");
    }

    private static void pagesAndDocumentAfterwards(Check check) {
        Looks.Start start = () -> afterReset(Vaults.busy());
        check.same("pages after reset()", Looks.pages(start), Looks.pages(Vaults::busy));
        check.same("the document after reset()", Looks.document(start), Looks.document(Vaults::busy));
    }

    private static void anotherDocumentAfterwards(Check check) {
        for (int n = 1; n <= 4; n++) {
            for (int other = 1; other <= 4; other++) {
                Vault vault = Vaults.printed(20 * n);
                for (int page = 0; page < n + 2; page++) {
                    vault.feed(page, 0);
                }
                vault.rebuild();
                vault.reset();
                int length = 20 * other - 7;
                Vaults.printAnew(vault, Vaults.bytes(length));
                for (int page = 2; page < other + 2; page++) {
                    check.same("page " + page + " of " + length + " after reset()", vault.feed(page, 0), page);
                }
                check.due("missing() then", () -> vault.missing(), 2);
                check.due("the document", () -> Vaults.rebuilt(vault), Vaults.bytes(length));
            }
        }
    }

    /** Numbers that were kept are not kept: other pages of the same n and length take their place. */
    private static void theSamePagesAfterwards(Check check) {
        Vault vault = Vaults.printed(40);
        Vaults.feedAll(vault, 0, 1, 2, 3);
        vault.reset();
        Vaults.printAnew(vault, Vaults.bytes(41).subList(1, 41));
        Vaults.feedAll(vault, 0, 1);
        check.due("missing() then", () -> vault.missing(), 2);
        check.due("the document", () -> Vaults.rebuilt(vault), Vaults.bytes(41).subList(1, 41));
    }
}
