/** Promise 9: the errors of a row of the page that was fed last. */
public final class Promise09ErrorsTest {
    public static void main(String[] args) {
        Check check = new Check("promise 9");
        eachRow(check);
        everySum(check);
        ofTheLastPageAlone(check);
        wrongArguments(check);
        check.end();
    }

    private static void eachRow(Check check) {
        Vault vault = Vaults.printed(50);
        Vaults.addToSymbol(vault, 2, 0, 14, 3);
        Vaults.addToSymbol(vault, 2, 2, 0, 15);
        Vaults.addToSymbol(vault, 2, 2, 7, 1);
        Vaults.ruinRow(vault, 2, 3);
        check.due("before any feed", () -> Vaults.errorsOf(vault), "-2 -2 -2 -2");
        for (int turns = 0; turns < 4; turns++) {
            vault.feed(2, turns);
            check.due("1, 0, 2 and past", () -> Vaults.errorsOf(vault), "1 0 2 -1");
        }
    }

    /** Whatever is added to c0 .. c3 of a word: with all 65536 of these its sums take every value. */
    private static void everySum(Check check) {
        for (int from = 0; from < 65536; from += 128) {
            Vault vault = Vaults.printed(20);
            int r = from / 128 % 4;
            int added = 0;
            for (int step = from; step < from + 128; step++) {
                // From each such number to the next but one bit changes, so few calls are needed.
                int wanted = step ^ step >> 1;
                for (int i = 0; i < 4; i++) {
                    Vaults.addToSymbol(vault, 0, r, i, (added ^ wanted) >> 4 * i & 15);
                }
                added = wanted;
                int errors = Model.errorsOf(new int[] {added & 15, added >> 4 & 15, added >> 8 & 15, added >> 12});
                int read = vault.feed(0, step % 4);
                check.same("errors of a row with " + added, vault.errors(r), errors);
                check.same("unreadable for it", errors != -1 || read == -1, true);
            }
        }
    }

    private static void ofTheLastPageAlone(Check check) {
        Vault vault = Vaults.printed(50);
        Vaults.addToSymbol(vault, 0, 1, 3, 4);
        vault.feed(0, 0);
        check.due("page 0", () -> Vaults.errorsOf(vault), "0 1 0 0");
        Vaults.addToSymbol(vault, 0, 1, 4, 4);
        check.due("a later fault does not count", () -> Vaults.errorsOf(vault), "0 1 0 0");
        vault.print();
        vault.wipe();
        vault.reset();
        check.due("print, wipe and reset feed nothing", () -> Vaults.errorsOf(vault), "0 1 0 0");
        vault.feed(1, 0);
        check.due("page 1", () -> Vaults.errorsOf(vault), "0 0 0 0");
        vault.blot(1, 0, 0, 18, 1, false);
        vault.feed(1, 0);
        check.due("an unreadable frame", () -> Vaults.errorsOf(vault), "-2 -2 -2 -2");
        vault.feed(2, 0);
        check.due("page 2", () -> Vaults.errorsOf(vault), "0 0 0 0");
    }

    private static void wrongArguments(Check check) {
        Vault vault = Vaults.printed(50);
        for (int round = 0; round < 2; round++) {
            for (int row : new int[] {-1, 4, 5, Integer.MIN_VALUE, Integer.MAX_VALUE}) {
                check.throwsArgument("errors(" + row + ")", () -> vault.errors(row));
            }
            vault.feed(0, 0);
        }
    }
}
