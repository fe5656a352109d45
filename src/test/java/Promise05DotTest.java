/** Promise 5: whether a dot of a printed page is black. */
public final class Promise05DotTest {
    public static void main(String[] args) {
        Check check = new Check("promise 5");
        theFrame(check);
        theBitsOfABlock(check);
        noSuchPageOrDot(check);
        check.end();
    }

    private static void theFrame(Check check) {
        Vault vault = Vaults.printed(25);
        for (int p = 0; p < 4; p++) {
            int page = p;
            for (int z = 0; z < 18; z++) {
                int at = z;
                check.due("dot(" + page + ", 0, " + at + ")", () -> vault.dot(page, 0, at), true);
                check.due("dot(" + page + ", " + at + ", 0)", () -> vault.dot(page, at, 0), true);
                if (at > 0) {
                    check.due("dot(" + page + ", 17, " + at + ")", () -> vault.dot(page, 17, at), at % 2 == 0);
                    check.due("dot(" + page + ", " + at + ", 17)", () -> vault.dot(page, at, 17), at % 2 == 0);
                }
            }
        }
    }

    /** Byte 0 of page 0 is c8 and c9 of row 0, in the blocks 32 and 36. */
    private static void theBitsOfABlock(Check check) {
        for (int bit = 0; bit < 8; bit++) {
            Vault vault = new Vault();
            vault.load(1 << bit);
            vault.print();
            for (int other = 0; other < 8; other++) {
                int x = (other < 4 ? 1 : 9) + other % 2;
                int y = 9 + other / 2 % 2;
                check.due("bit " + other + " of " + (1 << bit), () -> vault.dot(0, x, y), other == bit);
            }
        }
    }

    private static void noSuchPageOrDot(Check check) {
        Vault vault = Vaults.printed(20);
        int[] wrong = {-1, 18, 19, 324, Integer.MIN_VALUE, Integer.MAX_VALUE};
        for (int z : wrong) {
            check.throwsArgument("dot(0, " + z + ", 3)", () -> vault.dot(0, z, 3));
            check.throwsArgument("dot(0, 3, " + z + ")", () -> vault.dot(0, 3, z));
        }
        for (int page : new int[] {-1, 3, 4, 5, 6, Integer.MIN_VALUE, Integer.MAX_VALUE}) {
            check.throwsArgument("dot(" + page + ", 3, 3)", () -> vault.dot(page, 3, 3));
        }
        check.due("dot(2, 17, 17)", () -> vault.dot(2, 17, 17), false);
        check.due("dot(2, 17, 16)", () -> vault.dot(2, 17, 16), true);
    }
}
