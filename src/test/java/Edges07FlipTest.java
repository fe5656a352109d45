/** The edges of promise 7: no such page or dot. */
public final class Edges07FlipTest {
    private static final int[][] EDGE = {{0, 0}, {17, 0}, {0, 17}, {17, 17}, {16, 16}, {1, 1}, {8, 0}, {17, 9}};

    public static void main(String[] args) {
        Check check = new Check("edges of promise 7");
        new Places(check, "flip", Edges07FlipTest::flipped).checkAll();
        dotsAtTheEdge(check);
        flippedTwice(check);
        theRestStays(check);
        check.end();
    }

    private static String flipped(Vault vault, int page, int x, int y) {
        vault.flip(page, x, y);
        return "nothing";
    }

    private static void dotsAtTheEdge(Check check) {
        for (int n = 1; n <= 4; n++) {
            int length = 20 * n;
            for (int[] dot : EDGE) {
                checkFlip(check, length, 0, dot[0], dot[1]);
                checkFlip(check, length, n + 1, dot[0], dot[1]);
            }
        }
    }

    private static void checkFlip(Check check, int length, int page, int x, int y) {
        Vault vault = Vaults.printed(length);
        boolean[][] dots = Vaults.cleanDots(length, page);
        dots[x][y] = !dots[x][y];
        vault.flip(page, x, y);
        String what = "page " + page + " after flip at " + x + ", " + y;
        check.same(what, Vaults.picture(vault, page), Vaults.picture(dots));
    }

    private static void flippedTwice(Check check) {
        for (int[] dot : EDGE) {
            Looks.Start twice = () -> {
                Vault vault = Vaults.busy();
                vault.flip(4, dot[0], dot[1]);
                vault.flip(4, dot[0], dot[1]);
                return vault;
            };
            check.same("what is seen after two flips", Looks.all(twice), Looks.all(Vaults::busy));
        }
    }

    private static void theRestStays(Check check) {
        for (int p = 0; p < 5; p++) {
            int page = p;
            Looks.Start flipped = () -> {
                Vault vault = Vaults.busy();
                vault.flip(page, 17, 17);
                return vault;
            };
            check.same("the document after flip", Looks.document(flipped), Looks.document(Vaults::busy));
            check.same("the reader after flip", Looks.reader(flipped), Looks.reader(Vaults::busy));
            for (int other = 0; other < 6; other++) {
                if (other != page) {
                    check.same("page " + other + " after flip on page " + page, Looks.page(flipped, other),
                        Looks.page(Vaults::busy, other));
                }
            }
        }
    }
}
