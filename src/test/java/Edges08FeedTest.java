import java.util.Random;

/** The edges of promise 8 but for what the data tell: pages, turns, the frame, and the errors of rows. */
public final class Edges08FeedTest {
    public static void main(String[] args) {
        Check check = new Check("edges of promise 8");
        besideThePages(check);
        besideTheTurns(check);
        refusedFeedsChangeNothing(check);
        eightOfTheFrame(check);
        nineOfTheFrame(check);
        aFrameThatIsAsNearToEachTurn(check);
        pagesDrawnTurned(check);
        rowsWithUpToTwoErrors(check);
        rowsWithThreeErrors(check);
        anyTwoErrorsAreCorrected(check);
        rowsWithManyErrors(check);
        feedLeavesPagesAndDocument(check);
        feedLeavesTheRebuilt(check);
        check.end();
    }

    private static void besideThePages(Check check) {
        for (int page : new int[] {-1, 0, 1}) {
            check.throwsArgument("feed when no page is printed", () -> Vaults.loaded(80).feed(page, 0));
        }
        for (int n = 1; n <= 4; n++) {
            for (int length : new int[] {20 * n - 19, 20 * n}) {
                check.due("feed of page 0 of " + length, () -> Vaults.printed(length).feed(0, 0), 0);
                int last = n + 1;
                check.due("feed of the last page of " + length, () -> Vaults.printed(length).feed(last, 3), last);
                for (int page : new int[] {-1, last + 1, 6, 7, Integer.MIN_VALUE, Integer.MAX_VALUE}) {
                    check.throwsArgument("feed of page " + page + " of " + length,
                        () -> Vaults.printed(length).feed(page, 0));
                }
            }
        }
    }

    private static void besideTheTurns(Check check) {
        for (int page = 0; page < 3; page++) {
            int number = page;
            for (int t = 0; t < 4; t++) {
                int turns = t;
                check.due("turned " + turns, () -> Vaults.printed(20).feed(number, turns), number);
            }
            for (int turns : new int[] {-1, 4, 5, -4, 8, Integer.MIN_VALUE, Integer.MAX_VALUE}) {
                check.throwsArgument("turned " + turns, () -> Vaults.printed(20).feed(number, turns));
            }
        }
        check.throwsArgument("no page turned 4 times", () -> Vaults.printed(20).feed(3, 4));
    }

    private static void refusedFeedsChangeNothing(Check check) {
        int[][] wrong = {{-1, 0}, {5, 0}, {6, 3}, {0, -1}, {0, 4}, {3, 4}, {4, -1}, {-1, 4}};
        Refusal used = new Refusal(check, "a used object", Vaults::busy);
        Refusal unfed = new Refusal(check, "no page fed", () -> Vaults.printed(45));
        for (int[] arguments : wrong) {
            String what = "feed(" + arguments[0] + ", " + arguments[1] + ")";
            used.argument(what, vault -> vault.feed(arguments[0], arguments[1]));
            unfed.argument(what, vault -> vault.feed(arguments[0], arguments[1]));
        }
    }

    private static void eightOfTheFrame(Check check) {
        Random random = new Random(8);
        for (int time = 0; time < 300; time++) {
            Vault vault = Vaults.printed(20);
            int page = time % 3;
            flipFrameDots(vault, page, 8, random);
            for (int t = 0; t < 4; t++) {
                int turns = t;
                check.due("8 of the frame, turned " + turns, () -> vault.feed(page, turns), page);
                check.same("errors then", Vaults.errorsOf(vault), "0 0 0 0");
                check.due("missing() then", () -> vault.missing(), 2);
            }
        }
    }

    private static void nineOfTheFrame(Check check) {
        Random random = new Random(9);
        for (int time = 0; time < 300; time++) {
            Vault vault = Vaults.printed(20);
            int page = time % 3;
            flipFrameDots(vault, page, 9 + time / 100, random);
            for (int t = 0; t < 4; t++) {
                int turns = t;
                check.due("9 and more of the frame, turned " + turns, () -> vault.feed(page, turns), -1);
                check.same("errors then", Vaults.errorsOf(vault), "-2 -2 -2 -2");
                check.due("missing() then", () -> vault.missing(), -1);
            }
        }
    }

    private static void flipFrameDots(Vault vault, int page, int many, Random random) {
        boolean[] isFlipped = new boolean[68];
        for (int flipped = 0; flipped < many;) {
            int place = random.nextInt(68);
            if (!isFlipped[place]) {
                isFlipped[place] = true;
                flipped++;
                flipFrameDot(vault, page, place);
            }
        }
    }

    private static void flipFrameDot(Vault vault, int page, int place) {
        int along = place % 17;
        switch (place / 17) {
            case 0 -> vault.flip(page, along, 0);
            case 1 -> vault.flip(page, 17, along);
            case 2 -> vault.flip(page, 17 - along, 17);
            default -> vault.flip(page, 0, 17 - along);
        }
    }

    private static void aFrameThatIsAsNearToEachTurn(Check check) {
        for (boolean black : new boolean[] {true, false}) {
            for (int turns = 0; turns < 4; turns++) {
                Vault vault = Vaults.printed(20);
                vault.blot(0, 0, 0, 18, 1, black);
                vault.blot(0, 0, 0, 1, 18, black);
                vault.blot(0, 17, 0, 1, 18, black);
                vault.blot(0, 0, 17, 18, 1, black);
                check.same("a frame of one colour", vault.feed(0, turns), -1);
                check.same("errors then", Vaults.errorsOf(vault), "-2 -2 -2 -2");
            }
        }
    }

    /** A page that was drawn turned, with 8 of its frame wrong, is brought upright from every side. */
    private static void pagesDrawnTurned(Check check) {
        Random random = new Random(4);
        boolean[][] dots = Vaults.cleanDots(20, 2);
        for (int drawn = 0; drawn < 4; drawn++) {
            for (int many : new int[] {8, 9}) {
                Vault vault = Vaults.printed(20);
                Vaults.redraw(vault, 2, Vaults.cleanDots(20, 2), dots);
                flipFrameDots(vault, 2, many, random);
                for (int t = 0; t < 4; t++) {
                    int turns = t;
                    check.due("drawn turned " + drawn + ", " + many + " of the frame wrong", () -> vault.feed(2, turns),
                        many == 8 ? 2 : -1);
                    check.same("errors then", Vaults.errorsOf(vault), many == 8 ? "0 0 0 0" : "-2 -2 -2 -2");
                }
            }
            dots = Model.turn(dots);
        }
    }

    private static void rowsWithUpToTwoErrors(Check check) {
        for (int counts = 0; counts < 81; counts++) {
            int[] errors = {counts % 3, counts / 3 % 3, counts / 9 % 3, counts / 27};
            Vault vault = Vaults.printed(20);
            for (int r = 0; r < 4; r++) {
                for (int i = 0; i < errors[r]; i++) {
                    Vaults.addToSymbol(vault, 0, r, (counts + r + 7 * i) % 15, 1 + (counts + i) % 15);
                }
            }
            String told = errors[0] + " " + errors[1] + " " + errors[2] + " " + errors[3];
            check.same("feed with " + told + " errors", vault.feed(0, counts % 4), 0);
            check.same("errors", Vaults.errorsOf(vault), told);
            check.due("the document", () -> Vaults.rebuilt(vault), Vaults.bytes(20));
        }
    }

    private static void rowsWithThreeErrors(Check check) {
        for (int r = 0; r < 4; r++) {
            for (int p = 0; p < 3; p++) {
                int page = p;
                int other = (p + 1) % 3;
                Vault vault = Vaults.printed(20);
                Vaults.ruinRow(vault, page, r);
                check.same("row " + r + " past correction", vault.feed(page, r), -1);
                check.same("its errors", vault.errors(r), -1);
                check.same("the errors of another row", vault.errors((r + 1) % 4), 0);
                check.due("missing() then", () -> vault.missing(), -1);
                check.due("another page then", () -> vault.feed(other, 0), other);
                check.due("the same page again", () -> vault.feed(page, 0), -1);
                check.due("missing() at last", () -> vault.missing(), 2);
            }
        }
    }

    /** Each is fed to a reader that keeps nothing, so that what it keeps is what was corrected just now. */
    private static void anyTwoErrorsAreCorrected(Check check) {
        for (int i = 0; i < 15; i++) {
            for (int k = i + 1; k < 15; k++) {
                for (int e = 1; e < 16; e++) {
                    twoErrors(check, i, k, e);
                }
            }
        }
    }

    private static void twoErrors(Check check, int i, int k, int e) {
        Vault vault = Vaults.printed(20);
        int r = (i + k + e) % 4;
        Vaults.addToSymbol(vault, 0, r, i, e);
        int added = 0;
        for (int f = 1; f < 16; f++) {
            Vaults.addToSymbol(vault, 0, r, k, added ^ f);
            added = f;
            vault.reset();
            String what = e + " added at " + i + ", " + f + " at " + k + " of row " + r;
            check.same(what, vault.feed(0, f % 4) + " " + vault.errors(r), "0 2");
            check.due("the document, " + what, () -> Vaults.rebuilt(vault), Vaults.bytes(20));
        }
    }

    /** The nearest word may then be another than the one that was printed. */
    private static void rowsWithManyErrors(Check check) {
        Random random = new Random(15);
        int near = 0;
        for (int time = 0; time < 3000; time++) {
            Vault vault = Vaults.printed(20);
            Model model = Model.printed(Vaults.bytes(20));
            int r = random.nextInt(4);
            for (int i = 0; i < 15; i++) {
                if (random.nextInt(3) == 0) {
                    int symbol = 1 + random.nextInt(15);
                    Vaults.addToSymbol(vault, 0, r, i, symbol);
                    Vaults.addToSymbol(model, 0, r, i, symbol);
                }
            }
            near += manyErrors(check, vault, model, r);
        }
        check.same("some were near another word", near > 100, true);
    }

    /** 1 if the row was near some word. */
    private static int manyErrors(Check check, Vault vault, Model model, int r) {
        check.due("many errors in row " + r, () -> vault.feed(0, r), model.feed(0, r));
        for (int row = 0; row < 4; row++) {
            check.same("errors of row " + row, vault.errors(row), model.errors(row));
        }
        check.due("missing()", () -> vault.missing(), model.missing());
        check.due("rebuild()", () -> vault.rebuild(), Check.answer(model::rebuild));
        for (int i = 0; i < 20; i++) {
            int at = i;
            check.due("out(" + at + ")", () -> vault.out(at), Check.answer(() -> model.out(at)));
        }
        return model.errors(r) == -1 ? 0 : 1;
    }

    private static void feedLeavesPagesAndDocument(Check check) {
        Looks.Start start = Edges08FeedTest::damaged;
        for (int turn = 0; turn < 20; turn++) {
            int page = turn / 4;
            int turns = turn % 4;
            Looks.Start fed = () -> {
                Vault vault = start.make();
                vault.feed(page, turns);
                return vault;
            };
            check.same("pages after feed", Looks.pages(fed), Looks.pages(start));
            check.same("the document after feed", Looks.document(fed), Looks.document(start));
        }
    }

    /** Of five pages one has errors that are corrected, one a row past correction, one an unreadable frame. */
    private static Vault damaged() {
        Vault vault = Vaults.printed(45);
        Vaults.addToSymbol(vault, 1, 2, 3, 4);
        Vaults.ruinRow(vault, 2, 1);
        vault.blot(3, 0, 0, 18, 1, false);
        return vault;
    }

    /** What was rebuilt stays until rebuild or reset, whatever is fed. */
    private static void feedLeavesTheRebuilt(Check check) {
        Vault vault = damaged();
        Vaults.feedAll(vault, 0, 1, 4);
        vault.rebuild();
        Vaults.feedAll(vault, 2, 3, 0);
        for (int i = 0; i < 45; i++) {
            int at = i;
            check.due("out(" + at + ") after feeds", () -> vault.out(at), Vaults.byteAt(at));
        }
        check.throwsIndex("out(45) after feeds", () -> vault.out(45));
    }
}
