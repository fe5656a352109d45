/** The edges of promise 6: no such page or dot; wide or high not 1 .. 18; dots that are not on the page. */
public final class Edges06BlotTest {
    private static final int[] NO_SIZES = {-1, 0, 19, -18, 36, 65537, Integer.MIN_VALUE, Integer.MAX_VALUE};

    public static void main(String[] args) {
        Check check = new Check("edges of promise 6");
        new Places(check, "black blot", (vault, page, x, y) -> vault.blot(page, x, y, 1, 1, true)).checkAll();
        new Places(check, "large white blot", (vault, page, x, y) -> vault.blot(page, x, y, 18, 18, false)).checkAll();
        widthsAndHeights(check);
        refusedSizesChangeNothing(check);
        theSmallestAndTheLargest(check);
        beyondTheRightEdge(check);
        beyondTheLowerEdge(check);
        allWidthsAndHeights(check);
        dotsThatAreSoAlready(check);
        theRestStays(check);
        check.end();
    }

    private static void widthsAndHeights(Check check) {
        for (int size : NO_SIZES) {
            check.throwsArgument("wide " + size, () -> Vaults.printed(20).blot(0, 1, 1, size, 1, true));
            check.throwsArgument("high " + size, () -> Vaults.printed(20).blot(0, 1, 1, 1, size, true));
            check.throwsArgument("wide and high " + size, () -> Vaults.printed(20).blot(0, 1, 1, size, size, true));
            check.throwsArgument("wide " + size + " at the edge",
                () -> Vaults.printed(20).blot(2, 17, 17, size, 18, true));
            check.throwsArgument("high " + size + " at the edge",
                () -> Vaults.printed(20).blot(2, 17, 17, 18, size, true));
            check.throwsArgument("wide " + size + " on no page", () -> Vaults.printed(20).blot(3, 0, 0, size, 1, true));
        }
    }

    private static void refusedSizesChangeNothing(Check check) {
        Refusal used = new Refusal(check, "a used object", Vaults::busy);
        for (int size : NO_SIZES) {
            used.argument("blot wide " + size, vault -> vault.blot(0, 0, 0, size, 18, false));
            used.argument("blot high " + size, vault -> vault.blot(0, 0, 0, 18, size, true));
        }
    }

    private static void theSmallestAndTheLargest(Check check) {
        for (boolean black : new boolean[] {true, false}) {
            checkBlot(check, 2, 0, 0, 1, 1, black);
            checkBlot(check, 0, 17, 17, 1, 1, black);
            checkBlot(check, 1, 8, 9, 1, 1, black);
            checkBlot(check, 0, 0, 0, 18, 18, black);
            checkBlot(check, 2, 0, 0, 18, 1, black);
            checkBlot(check, 2, 0, 0, 1, 18, black);
        }
    }

    /** What is beyond the edge is left out, and does not go on at x 0 of the next line. */
    private static void beyondTheRightEdge(Check check) {
        for (boolean black : new boolean[] {true, false}) {
            checkBlot(check, 1, 17, 3, 2, 1, black);
            checkBlot(check, 1, 17, 3, 18, 1, black);
            checkBlot(check, 1, 1, 0, 18, 18, black);
            checkBlot(check, 1, 0, 4, 18, 2, black);
            checkBlot(check, 1, 9, 17, 18, 1, black);
        }
    }

    private static void beyondTheLowerEdge(Check check) {
        for (boolean black : new boolean[] {true, false}) {
            checkBlot(check, 0, 3, 17, 1, 2, black);
            checkBlot(check, 0, 3, 17, 1, 18, black);
            checkBlot(check, 0, 0, 1, 18, 18, black);
            checkBlot(check, 2, 17, 17, 18, 18, black);
        }
    }

    private static void allWidthsAndHeights(Check check) {
        for (int at = 0; at < 18; at++) {
            for (int size = 1; size <= 18; size++) {
                int across = (at * 5 + size) % 18;
                checkBlot(check, 1, at, across, size, 1 + (at + size * 7) % 18, at % 2 == 0);
                checkBlot(check, 1, across, at, 1 + (at + size * 7) % 18, size, at % 2 == 1);
            }
        }
    }

    /** Blots a page, and looks at the answer and at all dots. */
    private static void checkBlot(Check check, int page, int x, int y, int wide, int high, boolean black) {
        Vault vault = Vaults.printed(20);
        boolean[][] dots = Vaults.cleanDots(20, page);
        int otherwise = 0;
        for (int i = x; i < 18 && i < x + wide; i++) {
            for (int j = y; j < 18 && j < y + high; j++) {
                otherwise += dots[i][j] == black ? 0 : 1;
                dots[i][j] = black;
            }
        }
        String what = (black ? "black " : "white ") + wide + " by " + high + " at " + x + ", " + y;
        check.due(what, () -> vault.blot(page, x, y, wide, high, black), otherwise);
        check.same("the page after " + what, Vaults.picture(vault, page), Vaults.picture(dots));
        check.due(what + " again", () -> vault.blot(page, x, y, wide, high, black), 0);
    }

    private static void dotsThatAreSoAlready(Check check) {
        Vault vault = Vaults.printed(20);
        check.due("the black edge blotted black", () -> vault.blot(0, 0, 0, 18, 1, true), 0);
        check.due("the black edge blotted white", () -> vault.blot(0, 0, 0, 18, 1, false), 18);
        check.due("blocks 60 .. 63 blotted white", () -> vault.blot(0, 9, 15, 8, 2, false), 0);
        check.due("blocks 60 .. 63 blotted black", () -> vault.blot(0, 9, 15, 8, 2, true), 16);
        check.due("one black dot among them, blotted white", () -> vault.blot(0, 16, 16, 1, 1, false), 1);
        check.due("all of them blotted black", () -> vault.blot(0, 9, 15, 8, 2, true), 1);
    }

    private static void theRestStays(Check check) {
        for (int p = 0; p < 5; p++) {
            int page = p;
            Looks.Start blotted = () -> {
                Vault vault = Vaults.busy();
                vault.blot(page, 17, 17, 18, 18, true);
                vault.blot(page, 0, 0, 18, 18, false);
                return vault;
            };
            check.same("the document after blot", Looks.document(blotted), Looks.document(Vaults::busy));
            check.same("the reader after blot", Looks.reader(blotted), Looks.reader(Vaults::busy));
            for (int other = 0; other < 6; other++) {
                if (other != page) {
                    check.same("page " + other + " after blot on page " + page, Looks.page(blotted, other),
                        Looks.page(Vaults::busy, other));
                }
            }
        }
    }
}
