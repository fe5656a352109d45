import java.util.Collections;

/** The edges of promise 4: an empty document; lengths beside a multiple of 20; pages that were there before. */
public final class Edges04PrintTest {
    private static final int[][] PAGES_OF_LENGTHS = {
        {1, 3}, {2, 3}, {19, 3}, {20, 3}, {21, 4}, {39, 4}, {40, 4}, {41, 5}, {59, 5}, {60, 5}, {61, 6}, {79, 6},
        {80, 6},
    };

    public static void main(String[] args) {
        Check check = new Check("edges of promise 4");
        anEmptyDocument(check);
        besideAMultipleOfTwenty(check);
        besideAMultipleOfSixteen(check);
        zerosWhereThereAreNoBytes(check);
        theLeastAndTheGreatestBytes(check);
        pagesBeforeAreGone(check);
        damageIsGone(check);
        theDocumentStays(check);
        whatTheReaderKeepsStays(check);
        check.end();
    }

    private static void anEmptyDocument(Check check) {
        new Refusal(check, "a new object", Vault::new).state("print()", vault -> vault.print());
        new Refusal(check, "a wiped document", () -> wiped(Vaults.loaded(80))).state("print()", vault -> vault.print());
        new Refusal(check, "a wiped document with pages", () -> wiped(Vaults.busy()))
            .state("print()", vault -> vault.print());
    }

    private static Vault wiped(Vault vault) {
        vault.wipe();
        return vault;
    }

    private static void besideAMultipleOfTwenty(Check check) {
        for (int[] pair : PAGES_OF_LENGTHS) {
            int length = pair[0];
            int pages = pair[1];
            check.due("print() of " + length, () -> Vaults.loaded(length).print(), pages);
            for (int page = 0; page < pages; page++) {
                String picture = Looks.page(() -> Vaults.printed(length), page);
                check.same("page " + page + " of " + length, picture, Vaults.cleanPicture(length, page));
            }
            check.throwsArgument("page " + pages + " of " + length, () -> Vaults.printed(length).dot(pages, 0, 0));
        }
    }

    /** There the length's two symbols wrap round. */
    private static void besideAMultipleOfSixteen(Check check) {
        int[][] lengths = {{1, 1, 0}, {15, 15, 0}, {16, 0, 1}, {17, 1, 1}, {31, 15, 1}, {32, 0, 2}, {33, 1, 2},
            {47, 15, 2}, {48, 0, 3}, {49, 1, 3}, {63, 15, 3}, {64, 0, 4}, {65, 1, 4}, {79, 15, 4}, {80, 0, 5}};
        for (int[] length : lengths) {
            int pages = (length[0] + 19) / 20 + 2;
            for (int page = 0; page < pages; page++) {
                int[] row = Model.rowOf(Vaults.dots(Vaults.printed(length[0]), page), 0);
                String what = "page " + page + " of " + length[0];
                check.same("number, " + what, row[4], page);
                check.same("n, " + what, row[5], pages - 2);
                check.same("lower symbol of the length, " + what, row[6], length[1]);
                check.same("upper symbol of the length, " + what, row[7], length[2]);
            }
        }
    }

    /** Bytes that were there before a wipe must not come back where a shorter document has none. */
    private static void zerosWhereThereAreNoBytes(Check check) {
        for (int length : new int[] {1, 19, 21, 41, 61, 79}) {
            Vault vault = new Vault();
            Vaults.loadAll(vault, Collections.nCopies(80, 255));
            Vaults.printAnew(vault, Collections.nCopies(length, 255));
            int last = (length - 1) / 20;
            int[] payload = payload(Vaults.dots(vault, last));
            int filled = 2 * (length - 20 * last);
            for (int m = 0; m < 40; m++) {
                check.same("symbol " + m + " of page " + last + " of " + length, payload[m], m < filled ? 15 : 0);
            }
        }
    }

    private static int[] payload(boolean[][] dots) {
        int[] payload = new int[40];
        for (int m = 0; m < 40; m++) {
            payload[m] = Model.rowOf(dots, (m + 4) / 11)[4 + (m + 4) % 11];
        }
        return payload;
    }

    /** Page n has the sums, page n + 1 those of A^k times each: 15 (1 + 2 + 4 + 8) is 15 times 15, which is 10. */
    private static void theLeastAndTheGreatestBytes(Check check) {
        int[][] symbols = {{0, 0, 0, 0}, {255, 15, 0, 10}};
        for (int[] byteAndSymbols : symbols) {
            for (int page = 3; page < 6; page++) {
                Vault vault = new Vault();
                Vaults.loadAll(vault, Collections.nCopies(80, byteAndSymbols[0]));
                vault.print();
                int[] payload = payload(Vaults.dots(vault, page));
                for (int m = 0; m < 40; m++) {
                    check.same("symbol " + m + " of page " + page + ", all bytes " + byteAndSymbols[0], payload[m],
                        byteAndSymbols[page - 2]);
                }
            }
        }
    }

    private static void pagesBeforeAreGone(Check check) {
        for (int before = 1; before <= 4; before++) {
            for (int after = 1; after <= 4; after++) {
                int lengthBefore = 20 * before;
                int lengthAfter = 20 * after - 19;
                Looks.Start twice = () -> {
                    Vault vault = Vaults.printed(lengthBefore);
                    Vaults.printAnew(vault, Vaults.bytes(lengthAfter));
                    return vault;
                };
                check.same("pages of " + lengthAfter + " after those of " + lengthBefore, Looks.pages(twice),
                    Looks.pages(() -> Vaults.printed(lengthAfter)));
            }
        }
    }

    private static void damageIsGone(Check check) {
        for (boolean black : new boolean[] {true, false}) {
            Looks.Start damaged = () -> {
                Vault vault = Vaults.printed(80);
                for (int page = 0; page < 6; page++) {
                    vault.blot(page, 0, 0, 18, 18, black);
                }
                vault.print();
                return vault;
            };
            check.same("pages printed anew", Looks.pages(damaged), Looks.pages(() -> Vaults.printed(80)));
        }
    }

    private static void theDocumentStays(Check check) {
        for (int length : new int[] {1, 20, 21, 79, 80}) {
            check.same("the document of " + length + " after print()", Looks.document(() -> Vaults.printed(length)),
                Looks.document(() -> Vaults.loaded(length)));
            Vault vault = Vaults.printed(length);
            check.due("print() of " + length + " again", () -> vault.print(), (length + 19) / 20 + 2);
            check.due("wipe() then", () -> vault.wipe(), length);
        }
    }

    private static void whatTheReaderKeepsStays(Check check) {
        Looks.Start printed = () -> {
            Vault vault = Vaults.busy();
            vault.print();
            return vault;
        };
        check.same("the reader after print()", Looks.reader(printed), Looks.reader(Vaults::busy));
    }
}
