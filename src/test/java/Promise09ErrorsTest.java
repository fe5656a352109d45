/** Promise 9: the errors of a row of the page that was fed last. */
public final class Promise09ErrorsTest {
    public static void main(String[] args) {
        Check check = new Check("promise 9");
        eachRow(check);
        ofTheLastPageAlone(check);
        wrongArguments(check);
        check.end();
    }

    private static void eachRow(Check check) {
        DotVault vault = Vaults.printed(50);
        Vaults.addToSymbol(vault, 2, 0, 14, 3);
        Vaults.addToSymbol(vault, 2, 2, 0, 15);
        Vaults.addToSymbol(vault, 2, 2, 7, 1);
        Vaults.ruinRow(vault, 2, 3);
        check.due("before any feed", () -> Vaults.errorsOf(vault), "-2 -2 -2 -2");
        for (int turns = 0; turns < 4; turns++) {
            vault.feed(2, turns);
            check.due("1, 0, 2 and past", () -> Vaults.errorsOf(vault), "1 0 2 -1");
        }
    }

    private static void ofTheLastPageAlone(Check check) {
        DotVault vault = Vaults.printed(50);
        Vaults.addToSymbol(vault, 0, 1, 3, 4);
        vault.feed(0, 0);
        check.due("page 0", () -> Vaults.errorsOf(vault), "0 1 0 0");
        Vaults.addToSymbol(vault, 0, 1, 4, 4);
        check.due("a later fault does not count", () -> Vaults.errorsOf(vault), "0 1 0 0");
        vault.print();
        vault.wipe();
        vault.reset();
        check.due("print, wipe and reset feed nothing", () -> Vaults.errorsOf(vault), "0 1 0 0");
        vault.feed(1, 0);
        check.due("page 1", () -> Vaults.errorsOf(vault), "0 0 0 0");
        vault.blot(1, 0, 0, 18, 1, false);
        vault.feed(1, 0);
        check.due("an unreadable frame", () -> Vaults.errorsOf(vault), "-2 -2 -2 -2");
        vault.feed(2, 0);
        check.due("page 2", () -> Vaults.errorsOf(vault), "0 0 0 0");
    }

    private static void wrongArguments(Check check) {
        DotVault vault = Vaults.printed(50);
        for (int round = 0; round < 2; round++) {
            for (int row : new int[] {-1, 4, 5, Integer.MIN_VALUE, Integer.MAX_VALUE}) {
                check.throwsArgument("errors(" + row + ")", () -> vault.errors(row));
            }
            vault.feed(0, 0);
        }
    }
}
