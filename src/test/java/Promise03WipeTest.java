import java.util.List;

/** Promise 3: the document is empty; printed pages and what the reader keeps stay. */
public final class Promise03WipeTest {
    public static void main(String[] args) {
        Check check = new Check("promise 3");
        for (int length : new int[] {1, 20, 41, 80}) {
            Vault vault = Vaults.loaded(length);
            check.due("wipe() of " + length, () -> vault.wipe(), length);
            check.due("wipe() again", () -> vault.wipe(), 0);
            check.throwsState("print() after wipe()", () -> vault.print());
            check.due("load after wipe()", () -> vault.load(3), 1);
        }
        pagesAndReaderStay(check);
        oldBytesAreGone(check);
        check.end();
    }

    private static void pagesAndReaderStay(Check check) {
        Vault vault = Vaults.printed(45);
        Vaults.feedAll(vault, 0, 1, 3);
        vault.rebuild();
        vault.flip(2, 11, 5);
        boolean[][] page = Vaults.cleanDots(45, 2);
        page[11][5] = !page[11][5];
        vault.feed(2, 0);
        vault.wipe();
        check.due("page 2 after wipe()", () -> Vaults.picture(vault, 2), Vaults.picture(page));
        check.due("missing() after wipe()", () -> vault.missing(), 1);
        check.due("errors after wipe()", () -> Vaults.errorsOf(vault), "0 1 0 0");
        check.due("out(44) after wipe()", () -> vault.out(44), Vaults.byteAt(44));
        check.due("feed(4, 1) after wipe()", () -> vault.feed(4, 1), 4);
        check.due("rebuild() after wipe()", () -> Vaults.rebuilt(vault), Vaults.bytes(45));
    }

    private static void oldBytesAreGone(Check check) {
        Vault vault = Vaults.loaded(80);
        vault.wipe();
        vault.load(1);
        check.due("print()", () -> vault.print(), 3);
        check.due("page 0", () -> Vaults.picture(vault, 0),
            Vaults.picture(Model.page(Model.data(List.of(1))[0])));
    }
}
