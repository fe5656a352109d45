/** The edges of promise 9: no such row; no page fed; an unreadable frame; a row past correction; a strange page. */
public final class Edges09ErrorsTest {
    private static final int[] NO_ROWS = {-1, 4, 5, -4, 15, Integer.MIN_VALUE, Integer.MAX_VALUE};

    public static void main(String[] args) {
        Check check = new Check("edges of promise 9");
        noSuchRow(check);
        noPageFedYet(check);
        refusedFeedsAreNone(check);
        anUnreadableFrame(check);
        anUnreadableFrameAfterAPageThatWasRead(check);
        aRowPastCorrection(check);
        dataThatTellNoPage(check);
        aStrangePage(check);
        aPageWhoseNumberIsKept(check);
        changesNothing(check);
        check.end();
    }

    private static void noSuchRow(Check check) {
        Refusal fresh = new Refusal(check, "a new object", Vault::new);
        Refusal used = new Refusal(check, "a used object", Vaults::busy);
        for (int row : NO_ROWS) {
            fresh.argument("errors(" + row + ")", vault -> vault.errors(row));
            used.argument("errors(" + row + ")", vault -> vault.errors(row));
        }
        for (int r = 0; r < 4; r++) {
            int row = r;
            Vault vault = Vaults.printed(20);
            Vaults.addToSymbol(vault, 0, row, 14, 8);
            vault.feed(0, 0);
            check.due("errors(" + row + ")", () -> vault.errors(row), 1);
        }
    }

    private static void noPageFedYet(Check check) {
        check.same("a new object", Vaults.errorsOf(new Vault()), "-2 -2 -2 -2");
        check.same("a full document", Vaults.errorsOf(Vaults.loaded(80)), "-2 -2 -2 -2");
        check.same("printed pages", Vaults.errorsOf(Vaults.printed(80)), "-2 -2 -2 -2");
    }

    private static void refusedFeedsAreNone(Check check) {
        Vault vault = Vaults.printed(20);
        check.throwsArgument("feed(3, 0)", () -> vault.feed(3, 0));
        check.throwsArgument("feed(0, 4)", () -> vault.feed(0, 4));
        check.same("errors after them", Vaults.errorsOf(vault), "-2 -2 -2 -2");
        Vaults.addToSymbol(vault, 1, 3, 0, 2);
        vault.feed(1, 0);
        check.throwsArgument("feed(-1, 0)", () -> vault.feed(-1, 0));
        check.throwsArgument("feed(0, -1)", () -> vault.feed(0, -1));
        check.same("errors after those", Vaults.errorsOf(vault), "0 0 0 1");
    }

    private static void anUnreadableFrame(Check check) {
        for (int wrong = 7; wrong <= 10; wrong++) {
            Vault vault = Vaults.printed(20);
            Vaults.addToSymbol(vault, 0, 2, 6, 3);
            vault.blot(0, 0, 0, wrong, 1, false);
            check.same("feed with " + wrong + " of the frame", vault.feed(0, 1), wrong <= 8 ? 0 : -1);
            check.same("errors then", Vaults.errorsOf(vault), wrong <= 8 ? "0 0 1 0" : "-2 -2 -2 -2");
        }
    }

    private static void anUnreadableFrameAfterAPageThatWasRead(Check check) {
        Vault vault = Vaults.printed(20);
        for (int r = 0; r < 4; r++) {
            Vaults.addToSymbol(vault, 0, r, r, 1 + r);
        }
        vault.blot(1, 0, 0, 1, 18, false);
        vault.feed(0, 0);
        check.same("a page that was read", Vaults.errorsOf(vault), "1 1 1 1");
        vault.feed(1, 0);
        check.same("an unreadable frame after it", Vaults.errorsOf(vault), "-2 -2 -2 -2");
        vault.feed(0, 2);
        check.same("the first page again", Vaults.errorsOf(vault), "1 1 1 1");
    }

    private static void aRowPastCorrection(Check check) {
        for (int set = 1; set < 16; set++) {
            Vault vault = Vaults.printed(20);
            StringBuilder due = new StringBuilder();
            for (int r = 0; r < 4; r++) {
                boolean isPast = (set >> r & 1) == 1;
                if (isPast) {
                    Vaults.ruinRow(vault, 2, r);
                } else {
                    Vaults.addToSymbol(vault, 2, r, 13 - r, 5);
                }
                due.append(r == 0 ? "" : " ").append(isPast ? -1 : 1);
            }
            check.same("feed with rows past correction", vault.feed(2, set % 4), -1);
            check.same("errors of the rows", Vaults.errorsOf(vault), due.toString());
        }
    }

    private static void dataThatTellNoPage(Check check) {
        int[][] heads = {{0, 0, 20}, {0, 5, 20}, {3, 1, 20}, {0, 1, 0}, {0, 1, 21}};
        for (int[] head : heads) {
            Vault vault = Vaults.printed(20);
            Vaults.changeHead(vault, 0, new int[] {0, 1, 20}, head);
            Vaults.addToSymbol(vault, 0, 0, 9, 9);
            Vaults.addToSymbol(vault, 0, 3, 1, 9);
            Vaults.addToSymbol(vault, 0, 3, 12, 9);
            check.same("data that tell no page", vault.feed(0, 0), -1);
            check.same("errors then", Vaults.errorsOf(vault), "1 0 0 2");
        }
    }

    private static void aStrangePage(Check check) {
        Vault vault = Vaults.printed(20);
        vault.feed(0, 0);
        Vaults.printAnew(vault, Vaults.bytes(19));
        Vaults.addToSymbol(vault, 1, 1, 11, 6);
        Vaults.addToSymbol(vault, 1, 1, 2, 6);
        Vaults.addToSymbol(vault, 1, 3, 0, 7);
        check.same("a strange page", vault.feed(1, 3), -2);
        check.same("its errors", Vaults.errorsOf(vault), "0 2 0 1");
        check.same("another strange page", vault.feed(0, 3), -2);
        check.same("its errors", Vaults.errorsOf(vault), "0 0 0 0");
    }

    private static void aPageWhoseNumberIsKept(Check check) {
        Vault vault = Vaults.printed(20);
        vault.feed(0, 0);
        Vaults.addToSymbol(vault, 0, 2, 4, 1);
        check.same("errors before it is fed again", Vaults.errorsOf(vault), "0 0 0 0");
        check.same("a page that is kept", vault.feed(0, 0), 0);
        check.same("its errors", Vaults.errorsOf(vault), "0 0 1 0");
    }

    private static void changesNothing(Check check) {
        Looks.Start asked = () -> {
            Vault vault = Vaults.busy();
            Vaults.errorsOf(vault);
            return vault;
        };
        check.same("what is seen after errors", Looks.all(asked), Looks.all(Vaults::busy));
    }
}
