/** Promise 7: a dot of a printed page becomes the other colour. */
public final class Promise07FlipTest {
    public static void main(String[] args) {
        Check check = new Check("promise 7");
        eachDot(check);
        wrongArguments(check);
        check.end();
    }

    private static void eachDot(Check check) {
        DotVault vault = Vaults.printed(61);
        boolean[][] dots = Vaults.dots(vault, 5);
        String other = Vaults.picture(Vaults.dots(vault, 4));
        for (int x = 0; x < 18; x++) {
            for (int y = 0; y < 18; y++) {
                vault.flip(5, x, y);
                dots[x][y] = !dots[x][y];
                check.same("after flip(5, " + x + ", " + y + ")", Vaults.picture(Vaults.dots(vault, 5)),
                    Vaults.picture(dots));
            }
        }
        vault.flip(5, 9, 9);
        vault.flip(5, 9, 9);
        check.same("flipped twice", Vaults.picture(Vaults.dots(vault, 5)), Vaults.picture(dots));
        check.same("the other page", Vaults.picture(Vaults.dots(vault, 4)), other);
    }

    private static void wrongArguments(Check check) {
        DotVault vault = Vaults.printed(61);
        String before = Vaults.picture(Vaults.dots(vault, 0));
        String argument = "throws.IllegalArgumentException";
        for (int z : new int[] {-1, 18, 32, Integer.MIN_VALUE, Integer.MAX_VALUE}) {
            check.same("x " + z, Check.answerOf(() -> vault.flip(0, z, 1)), argument);
            check.same("y " + z, Check.answerOf(() -> vault.flip(0, 1, z)), argument);
        }
        for (int page : new int[] {-1, 6, 7, Integer.MIN_VALUE, Integer.MAX_VALUE}) {
            check.same("page " + page, Check.answerOf(() -> vault.flip(page, 1, 1)), argument);
        }
        check.same("nothing is done then", Vaults.picture(Vaults.dots(vault, 0)), before);
    }
}
