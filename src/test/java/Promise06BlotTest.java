/** Promise 6: dots of a printed page become black or white, and how many were otherwise. */
public final class Promise06BlotTest {
    public static void main(String[] args) {
        Check check = new Check("promise 6");
        countsAndColours(check);
        for (int from = 0; from < 324; from += 108) {
            placesAndSizes(check, from);
        }
        wrongArguments(check);
        check.end();
    }

    private static void countsAndColours(Check check) {
        Vault vault = Vaults.printed(40);
        int black = 0;
        for (boolean[] column : Vaults.cleanDots(40, 0)) {
            for (boolean dot : column) {
                black += dot ? 1 : 0;
            }
        }
        check.due("blot all black", () -> vault.blot(0, 0, 0, 18, 18, true), 324 - black);
        check.due("blot all black again", () -> vault.blot(0, 0, 0, 18, 18, true), 0);
        check.due("blot all white", () -> vault.blot(0, 0, 0, 18, 18, false), 324);
        check.due("blot beyond the edge", () -> vault.blot(0, 17, 17, 18, 18, true), 1);
        check.due("blot 2 by 3", () -> vault.blot(0, 5, 6, 2, 3, true), 6);
        check.due("dot(0, 6, 8)", () -> vault.dot(0, 6, 8), true);
        check.due("dot(0, 7, 8)", () -> vault.dot(0, 7, 8), false);
        check.due("dot(0, 6, 9)", () -> vault.dot(0, 6, 9), false);
        check.due("dot(0, 4, 6)", () -> vault.dot(0, 4, 6), false);
        check.due("blot partly black", () -> vault.blot(0, 4, 5, 4, 5, true), 14);
        check.due("the other page", () -> Vaults.picture(vault, 1), Vaults.cleanPicture(40, 1));
    }

    private static void placesAndSizes(Check check, int from) {
        Vault vault = Vaults.printed(40);
        Model model = Model.printed(Vaults.bytes(40));
        for (int place = from; place < from + 108; place++) {
            int x = place % 18;
            int y = place / 18;
            int wide = 1 + place * 7 % 18;
            int high = 1 + place * 5 % 18;
            boolean black = place % 3 == 0;
            check.due("blot at " + x + ", " + y, () -> vault.blot(1, x, y, wide, high, black),
                model.blot(1, x, y, wide, high, black));
        }
        for (int x = 0; x < 18; x++) {
            for (int y = 0; y < 18; y++) {
                check.same("dot " + x + ", " + y, vault.dot(1, x, y), model.dot(1, x, y));
            }
        }
    }

    private static void wrongArguments(Check check) {
        Vault vault = Vaults.printed(40);
        for (int z : new int[] {-1, 18, Integer.MIN_VALUE, Integer.MAX_VALUE}) {
            check.throwsArgument("x " + z, () -> vault.blot(0, z, 1, 2, 2, true));
            check.throwsArgument("y " + z, () -> vault.blot(0, 1, z, 2, 2, true));
        }
        for (int size : new int[] {-1, 0, 19, Integer.MIN_VALUE, Integer.MAX_VALUE}) {
            check.throwsArgument("wide " + size, () -> vault.blot(0, 1, 1, size, 2, true));
            check.throwsArgument("high " + size, () -> vault.blot(0, 1, 1, 2, size, true));
        }
        for (int page : new int[] {-1, 4, 5, 6, Integer.MIN_VALUE, Integer.MAX_VALUE}) {
            check.throwsArgument("page " + page, () -> vault.blot(page, 1, 1, 2, 2, true));
        }
        check.due("nothing is done then", () -> Vaults.picture(vault, 0), Vaults.cleanPicture(40, 0));
    }
}
