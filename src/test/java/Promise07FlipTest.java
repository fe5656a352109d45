/** Promise 7: a dot of a printed page becomes the other colour. */
public final class Promise07FlipTest {
    public static void main(String[] args) {
        Check check = new Check("promise 7");
        eachDot(check);
        allDots(check);
        twiceAndElsewhere(check);
        wrongArguments(check);
        check.end();
    }

    private static void eachDot(Check check) {
        for (int x = 0; x < 18; x++) {
            for (int y = 0; y < 18; y++) {
                Vault vault = Vaults.printed(61);
                boolean[][] dots = Vaults.cleanDots(61, 5);
                vault.flip(5, x, y);
                dots[x][y] = !dots[x][y];
                check.same("after flip(5, " + x + ", " + y + ")", Vaults.picture(vault, 5), Vaults.picture(dots));
            }
        }
    }

    private static void allDots(Check check) {
        Vault vault = Vaults.printed(1);
        boolean[][] dots = Vaults.cleanDots(1, 2);
        for (int x = 0; x < 18; x++) {
            for (int y = x % 2; y < 18; y += 2) {
                vault.flip(2, x, y);
                dots[x][y] = !dots[x][y];
            }
        }
        check.same("every other dot flipped", Vaults.picture(vault, 2), Vaults.picture(dots));
    }

    private static void twiceAndElsewhere(Check check) {
        Vault vault = Vaults.printed(61);
        vault.flip(5, 9, 9);
        vault.flip(5, 9, 9);
        check.same("flipped twice", Vaults.picture(vault, 5), Vaults.cleanPicture(61, 5));
        Vault other = Vaults.printed(61);
        other.flip(5, 9, 9);
        check.same("the other page", Vaults.picture(other, 4), Vaults.cleanPicture(61, 4));
    }

    private static void wrongArguments(Check check) {
        Vault vault = Vaults.printed(61);
        String argument = "throws.IllegalArgumentException";
        for (int z : new int[] {-1, 18, 32, Integer.MIN_VALUE, Integer.MAX_VALUE}) {
            check.same("x " + z, Check.answerOf(() -> vault.flip(0, z, 1)), argument);
            check.same("y " + z, Check.answerOf(() -> vault.flip(0, 1, z)), argument);
        }
        for (int page : new int[] {-1, 6, 7, Integer.MIN_VALUE, Integer.MAX_VALUE}) {
            check.same("page " + page, Check.answerOf(() -> vault.flip(page, 1, 1)), argument);
        }
        check.same("nothing is done then", Vaults.picture(vault, 0), Vaults.cleanPicture(61, 0));
    }
}
