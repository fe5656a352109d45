import java.util.List;

/** Promise 8: a printed page is turned so many times, and read. */
public final class Promise08FeedTest {
    public static void main(String[] args) {
        Check check = new Check("promise 8");
        everyPageAndTurn(check);
        turnedPages(check);
        frameFaults(check);
        anyEightFrameFaults(check);
        oneOrTwoFaultsInARow(check);
        threeFaultsInARow(check);
        unusedBlocks(check);
        dataThatTellNoPage(check);
        numberThatTheDataTell(check);
        strangePages(check);
        keptInAnyCase(check);
        wrongArguments(check);
        check.end();
    }

    private static void everyPageAndTurn(Check check) {
        for (int length : new int[] {1, 20, 21, 40, 41, 60, 61, 80}) {
            int pages = (length - 1) / 20 + 3;
            for (int p = 0; p < pages; p++) {
                int page = p;
                Vault vault = Vaults.printed(length);
                for (int t = 0; t < 4; t++) {
                    int turns = t;
                    check.due("feed(" + page + ", " + turns + ") of " + length, () -> vault.feed(page, turns), page);
                }
                check.same("page " + page + " stays", Vaults.picture(vault, page), Vaults.cleanPicture(length, page));
            }
        }
    }

    /** A sheet that was itself drawn turned is read as well. */
    private static void turnedPages(Check check) {
        boolean[][] dots = Vaults.cleanDots(33, 1);
        for (int drawn = 1; drawn < 4; drawn++) {
            Vault vault = Vaults.printed(33);
            dots = Model.turn(dots);
            Vaults.redraw(vault, 0, Vaults.cleanDots(33, 0), dots);
            for (int t = 0; t < 4; t++) {
                int turns = t;
                check.due("turned " + drawn + " and " + turns, () -> vault.feed(0, turns), 1);
                check.same("its errors", Vaults.errorsOf(vault), "0 0 0 0");
            }
            Vaults.feedAll(vault, 2);
            check.due("what was read", () -> Vaults.rebuilt(vault), Vaults.bytes(33));
        }
    }

    private static void frameFaults(Check check) {
        for (int side = 0; side < 4; side++) {
            Vault vault = Vaults.printed(20);
            for (int z = 1; z <= 8; z++) {
                vault.flip(1, side == 0 ? 0 : side == 1 ? 17 : z, side == 2 ? 0 : side == 3 ? 17 : z);
            }
            int turns = side;
            check.due("8 faults of the frame, side " + side, () -> vault.feed(1, turns), 1);
            vault.flip(1, 17, 17);
            check.due("9 faults of the frame, side " + side, () -> vault.feed(1, turns), -1);
            check.same("errors then", Vaults.errorsOf(vault), "-2 -2 -2 -2");
            vault.flip(1, 17, 17);
            vault.flip(1, 1, 1);
            check.due("8 faults and one inside", () -> vault.feed(1, turns), 1);
        }
        Vault vault = Vaults.printed(20);
        for (boolean black : new boolean[] {true, false}) {
            vault.blot(0, 0, 0, 18, 18, black);
            check.due("all dots alike", () -> vault.feed(0, 0), -1);
            check.same("errors then", Vaults.errorsOf(vault), "-2 -2 -2 -2");
        }
        check.due("nothing was kept of unreadable pages", () -> vault.missing(), -1);
    }

    /** Other turns than the right one may come nearer by the faults, but never near enough. */
    private static void anyEightFrameFaults(Check check) {
        for (int start = 0; start < 68; start++) {
            for (int stride = 1; stride <= 8; stride++) {
                Vault vault = Vaults.printed(20);
                for (int i = 0; i < 8; i++) {
                    flipFrameDot(vault, (start + i * stride) % 68);
                }
                for (int t = 0; t < 4; t++) {
                    int turns = t;
                    check.due("faults from " + start + " on by " + stride, () -> vault.feed(1, turns), 1);
                    check.same("errors then", Vaults.errorsOf(vault), "0 0 0 0");
                }
            }
        }
    }

    private static void flipFrameDot(Vault vault, int place) {
        int along = place % 17;
        switch (place / 17) {
            case 0 -> vault.flip(1, along, 0);
            case 1 -> vault.flip(1, 17, along);
            case 2 -> vault.flip(1, 17 - along, 17);
            default -> vault.flip(1, 0, 17 - along);
        }
    }

    private static void oneOrTwoFaultsInARow(Check check) {
        for (int i = 0; i < 15; i++) {
            Vault vault = Vaults.printed(64);
            for (int k = i; k < 15; k++) {
                int page = (i + k) % 6;
                int r = (i * k) % 4;
                int e = 1 + (3 * i + k) % 15;
                int f = 1 + (5 * k + i) % 15;
                Vaults.addToSymbol(vault, page, r, i, e);
                if (k != i) {
                    Vaults.addToSymbol(vault, page, r, k, f);
                }
                check.due("faults at " + i + " and " + k, () -> vault.feed(page, r), page);
                check.due("their errors", () -> vault.errors(r), i == k ? 1 : 2);
                if (k != i) {
                    Vaults.addToSymbol(vault, page, r, k, f);
                }
                Vaults.addToSymbol(vault, page, r, i, e);
                vault.reset();
            }
        }
        twoFaultsInEachRow(check);
    }

    private static void twoFaultsInEachRow(Check check) {
        Vault vault = Vaults.printed(64);
        for (int page = 0; page < 4; page++) {
            for (int r = 0; r < 4; r++) {
                Vaults.addToSymbol(vault, page, r, 4 + r, 15);
                Vaults.addToSymbol(vault, page, r, 14 - r, 8);
            }
            vault.feed(page, page);
            check.same("two in each row", Vaults.errorsOf(vault), "2 2 2 2");
        }
        check.due("what was kept is corrected", () -> Vaults.rebuilt(vault), Vaults.bytes(64));
    }

    private static void threeFaultsInARow(Check check) {
        Vault vault = Vaults.printed(64);
        for (int r = 0; r < 4; r++) {
            int page = r;
            Vaults.ruinRow(vault, page, r);
            check.due("row " + r + " past correction", () -> vault.feed(page, 2), -1);
            check.due("its errors", () -> vault.errors(page), -1);
            check.due("nothing is kept", () -> vault.missing(), -1);
        }
        nearestWordMayBeAnother(check);
    }

    /** Three symbols of a word of weight 5: the nearest word is then that one, two symbols away. */
    private static void nearestWordMayBeAnother(Check check) {
        Vault vault = Vaults.printed(64);
        int[] word = Model.word(new int[] {0, 0, 0, 0, 1, 0, 0, 0, 0, 0, 0});
        Vaults.addToSymbol(vault, 2, 3, 8, word[8]);
        Vaults.addToSymbol(vault, 2, 3, 0, word[0]);
        Vaults.addToSymbol(vault, 2, 3, 1, word[1]);
        check.due("a row near another word", () -> vault.feed(2, 0), 2);
        check.due("its errors", () -> Vaults.errorsOf(vault), "0 0 0 2");
    }

    private static void unusedBlocks(Check check) {
        Vault vault = Vaults.printed(20);
        vault.blot(0, 9, 15, 8, 2, true);
        check.due("blocks 60 .. 63 black", () -> vault.feed(0, 3), 0);
        check.due("no errors", () -> Vaults.errorsOf(vault), "0 0 0 0");
    }

    private static void dataThatTellNoPage(Check check) {
        int[][] heads = {
            {0, 0, 0}, {0, 0, 1}, {0, 5, 81}, {0, 5, 100}, {0, 15, 255}, {3, 1, 20}, {15, 1, 20}, {6, 4, 80},
            {5, 3, 60}, {0, 1, 0}, {0, 1, 21}, {0, 2, 20}, {0, 2, 41}, {0, 3, 40}, {0, 3, 61}, {0, 4, 60},
            {0, 4, 81}, {0, 4, 255},
        };
        for (int[] head : heads) {
            Vault vault = Vaults.printed(20);
            Vaults.changeHead(vault, 1, new int[] {1, 1, 20}, head);
            String what = "number " + head[0] + ", n " + head[1] + ", length " + head[2];
            check.due(what, () -> vault.feed(1, 1), -1);
            check.due("errors of " + what, () -> Vaults.errorsOf(vault), "0 0 0 0");
            check.due("missing() after " + what, () -> vault.missing(), -1);
        }
        int[][] good = {{2, 1, 20}, {2, 1, 1}, {3, 2, 21}, {0, 2, 40}, {4, 3, 41}, {0, 3, 60}, {5, 4, 61}, {5, 4, 80}};
        for (int[] head : good) {
            Vault vault = Vaults.printed(20);
            Vaults.changeHead(vault, 1, new int[] {1, 1, 20}, head);
            check.due("n " + head[1] + ", length " + head[2], () -> vault.feed(1, 1), head[0]);
        }
    }

    private static void numberThatTheDataTell(Check check) {
        Vault vault = Vaults.printed(80);
        Vaults.redraw(vault, 0, Vaults.cleanDots(80, 0), Vaults.cleanDots(80, 3));
        check.due("page 0 drawn as page 3", () -> vault.feed(0, 1), 3);
        check.due("missing() then", () -> vault.missing(), 5);
        check.due("page 3 itself", () -> vault.feed(3, 1), 3);
        check.due("missing() still", () -> vault.missing(), 5);
    }

    private static void strangePages(Check check) {
        Vault vault = Vaults.printed(20);
        vault.feed(0, 0);
        Vaults.printAnew(vault, Vaults.bytes(19));
        check.due("another length, number kept", () -> vault.feed(0, 0), -2);
        check.due("another length", () -> vault.feed(1, 2), -2);
        Vaults.addToSymbol(vault, 1, 2, 2, 2);
        check.due("another length, damaged", () -> vault.feed(1, 2), -2);
        check.due("its errors", () -> Vaults.errorsOf(vault), "0 0 1 0");
        Vaults.printAnew(vault, Vaults.bytes(21));
        check.due("another n", () -> vault.feed(3, 0), -2);
        check.due("nothing is done with them", () -> vault.missing(), 2);
        vault.blot(3, 0, 0, 9, 9, false);
        check.due("unreadable, not strange", () -> vault.feed(3, 0), -1);
        check.due("rebuild()", () -> Vaults.rebuilt(vault), Vaults.bytes(20));
    }

    private static void keptInAnyCase(Check check) {
        Vault vault = new Vault();
        vault.load(10);
        vault.print();
        vault.feed(0, 0);
        Vaults.printAnew(vault, List.of(11));
        check.due("a number that is kept", () -> vault.feed(0, 0), 0);
        check.due("the first payload stays", () -> Vaults.rebuilt(vault), List.of(10));
    }

    private static void wrongArguments(Check check) {
        Vault vault = Vaults.printed(20);
        Vaults.addToSymbol(vault, 0, 0, 0, 1);
        vault.feed(0, 0);
        for (int page : new int[] {-1, 3, 5, 6, Integer.MIN_VALUE, Integer.MAX_VALUE}) {
            check.throwsArgument("page " + page, () -> vault.feed(page, 0));
        }
        for (int turns : new int[] {-1, 4, 5, Integer.MIN_VALUE, Integer.MAX_VALUE}) {
            check.throwsArgument("turns " + turns, () -> vault.feed(1, turns));
        }
        check.due("errors as before", () -> Vaults.errorsOf(vault), "1 0 0 0");
        check.due("missing() as before", () -> vault.missing(), 2);
    }
}
