import java.util.Arrays;
import java.util.List;

/** Promise 4: prints the document; pages that were printed before are gone. */
public final class Promise04PrintTest {
    public static void main(String[] args) {
        Check check = new Check("promise 4");
        everyLengthIsPrinted(check);
        knownPage(check);
        rowsAreWords(check);
        printingAgain(check);
        emptyDocument(check);
        check.end();
    }

    private static void everyLengthIsPrinted(Check check) {
        for (int length = 1; length <= 80; length++) {
            int pages = (length - 1) / 20 + 3;
            for (int p = 0; p < pages; p++) {
                int page = p;
                Vault vault = Vaults.loaded(length);
                check.due("print() of " + length, () -> vault.print(), pages);
                check.due("page " + page + " of " + length, () -> Vaults.picture(vault, page),
                    Vaults.cleanPicture(length, page));
                check.throwsArgument("the page behind the last of " + length, () -> vault.dot(pages, 0, 0));
            }
        }
    }

    /** The document of the one byte 1: c5 (n), c6 (the length) and c8 (the byte) of row 0 are 1. */
    private static void knownPage(Check check) {
        Vault vault = new Vault();
        vault.load(1);
        vault.print();
        boolean[][] dots = Vaults.dots(vault, 0);
        check.same("row 0", Arrays.toString(Model.rowOf(dots, 0)), "[13, 0, 10, 8, 0, 1, 1, 0, 1, 0, 0, 0, 0, 0, 0]");
        check.same("row 1", Arrays.toString(Model.rowOf(dots, 1)), "[0, 0, 0, 0, 0, 0, 0, 0, 0, 0, 0, 0, 0, 0, 0]");
    }

    private static void rowsAreWords(Check check) {
        for (int page = 0; page < 6; page++) {
            boolean[][] dots = Vaults.dots(Vaults.printed(73), page);
            for (int r = 0; r < 4; r++) {
                check.same("the sums of row " + r + " of page " + page, Model.sums(Model.rowOf(dots, r)), 0);
            }
            int head = Model.rowOf(dots, 0)[4] + 16 * Model.rowOf(dots, 0)[5];
            check.same("number and n of page " + page, head, page + 16 * 4);
            int length = Model.rowOf(dots, 0)[6] + 16 * Model.rowOf(dots, 0)[7];
            check.same("length on page " + page, length, 73);
            for (int x = 9; x < 17; x++) {
                check.same("blocks 60 .. 63, page " + page, dots[x][15] || dots[x][16], false);
            }
        }
    }

    private static void printingAgain(Check check) {
        for (int page : new int[] {0, 5}) {
            Vault vault = Vaults.printed(61);
            vault.blot(page, 0, 0, 18, 18, page == 0);
            check.due("print() again", () -> vault.print(), 6);
            check.due("page " + page + " anew", () -> Vaults.picture(vault, page), Vaults.cleanPicture(61, page));
            check.due("the document stays", () -> vault.load(4), 62);
        }
        Vault vault = Vaults.printed(61);
        Vaults.printAnew(vault, List.of(200, 100));
        check.throwsArgument("a page that is gone", () -> vault.dot(3, 0, 0));
        check.throwsArgument("a page that is gone, fed", () -> vault.feed(5, 0));
        check.due("page 2", () -> Vaults.picture(vault, 2),
            Vaults.picture(Model.page(Model.data(List.of(200, 100))[2])));
    }

    private static void emptyDocument(Check check) {
        Vault vault = Vaults.printed(30);
        vault.flip(1, 4, 4);
        boolean[][] page = Vaults.cleanDots(30, 1);
        page[4][4] = !page[4][4];
        vault.wipe();
        check.throwsState("print() of nothing", () -> vault.print());
        check.due("the pages stay then", () -> Vaults.picture(vault, 1), Vaults.picture(page));
        check.due("all of them", () -> vault.feed(3, 0), 3);
    }
}
