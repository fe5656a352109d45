/** The edges of promise 5: no such page or dot, on each side of 0 .. 17 and of the pages that are printed. */
public final class Edges05DotTest {
    public static void main(String[] args) {
        Check check = new Check("edges of promise 5");
        new Places(check, "dot", (vault, page, x, y) -> vault.dot(page, x, y)).checkAll();
        coloursAtTheEdge(check);
        changesNothing(check);
        check.end();
    }

    /** The corners, dots of the frame beside them, and dots of the blocks 60 .. 63. */
    private static void coloursAtTheEdge(Check check) {
        int[][] black = {{0, 0}, {1, 0}, {16, 0}, {17, 0}, {0, 1}, {0, 16}, {0, 17}, {17, 2}, {2, 17}, {17, 16},
            {16, 17}};
        int[][] white = {{17, 17}, {17, 1}, {1, 17}, {17, 15}, {15, 17}, {15, 15}, {16, 16}, {9, 15}, {9, 16}};
        for (int page = 0; page < 3; page++) {
            for (int[] dot : black) {
                checkColour(check, page, dot, true);
            }
            for (int[] dot : white) {
                checkColour(check, page, dot, false);
            }
        }
    }

    private static void checkColour(Check check, int page, int[] dot, boolean black) {
        Vault vault = Vaults.printed(20);
        check.due("dot(" + page + ", " + dot[0] + ", " + dot[1] + ")", () -> vault.dot(page, dot[0], dot[1]), black);
    }

    private static void changesNothing(Check check) {
        Looks.Start looked = () -> {
            Vault vault = Vaults.busy();
            vault.dot(0, 0, 0);
            vault.dot(4, 17, 17);
            vault.dot(1, 9, 9);
            return vault;
        };
        check.same("what is seen after dot", Looks.all(looked), Looks.all(Vaults::busy));
    }
}
