import java.util.List;

/** The edges of promise 8 in what the data tell: n, number and length; strange pages; numbers that are kept. */
public final class Edges08DataTest {
    private static final int[] PRINTED = {1, 1, 20};

    public static void main(String[] args) {
        Check check = new Check("edges of promise 8, the data");
        besideN(check);
        besideTheNumber(check);
        besideTheLength(check);
        everyHead(check, false);
        everyHead(check, true);
        headsThatAreCorrected(check);
        besideTheLengthThatIsKept(check);
        anotherNThatIsKept(check);
        strangeThoughTheNumberIsKept(check);
        unreadableGoesBeforeStrange(check);
        strangePagesChangeNothing(check);
        strangeNoMoreAfterReset(check);
        unreadablePagesAreNotTheFirst(check);
        aNumberThatIsKept(check);
        check.end();
    }

    private static void besideN(Check check) {
        head(check, 0, 0, 0, -1);
        head(check, 0, 0, 1, -1);
        head(check, 1, 1, 1, 1);
        head(check, 1, 4, 80, 1);
        head(check, 0, 5, 81, -1);
        head(check, 0, 5, 100, -1);
        head(check, 0, 15, 255, -1);
    }

    private static void besideTheNumber(Check check) {
        for (int n = 1; n <= 4; n++) {
            for (int length : new int[] {20 * n - 19, 20 * n}) {
                head(check, 0, n, length, 0);
                head(check, n, n, length, n);
                head(check, n + 1, n, length, n + 1);
                head(check, n + 2, n, length, -1);
                head(check, 15, n, length, -1);
            }
        }
    }

    private static void besideTheLength(Check check) {
        for (int n = 1; n <= 4; n++) {
            head(check, 0, n, 20 * n - 20, -1);
            head(check, 0, n, 20 * n - 19, 0);
            head(check, 0, n, 20 * n, 0);
            head(check, 0, n, 20 * n + 1, -1);
            head(check, 0, n, 0, -1);
            head(check, 0, n, 255, -1);
            // Here the lower symbol of the length is right, and the upper one alone is not.
            head(check, 0, n, 20 * n + 80, -1);
            head(check, 0, n, 20 * n + 96, -1);
        }
    }

    /** Feeds a page that tells this to a reader that keeps nothing. */
    private static void head(Check check, int number, int n, int length, int want) {
        for (int t = 0; t < 4; t++) {
            int turns = t;
            Vault vault = Vaults.printed(20);
            Vaults.changeHead(vault, 1, PRINTED, new int[] {number, n, length});
            String what = "number " + number + ", n " + n + ", length " + length;
            check.due(what, () -> vault.feed(1, turns), want);
            check.same("errors, " + what, Vaults.errorsOf(vault), "0 0 0 0");
            check.due("missing(), " + what, () -> vault.missing(), want == -1 ? -1 : n + 1);
            check.due("reset(), " + what, () -> vault.reset(), want == -1 ? 0 : 1);
        }
    }

    /** All 65536, each read by a reader that keeps nothing, or by one that keeps a page with n 2 and length 33. */
    private static void everyHead(Check check, boolean keeps) {
        for (int from = 0; from < 65536; from += 32) {
            Vault vault = Vaults.printed(33);
            if (keeps) {
                vault.feed(0, 0);
            }
            int[] before = {1, 2, 33};
            for (int head = from; head < from + 32; head++) {
                // From each such number to the next but one bit changes, so few calls are needed.
                int gray = head ^ head >> 1;
                int[] now = {gray & 15, gray >> 4 & 15, gray >> 8};
                Vaults.changeHead(vault, 1, before, now);
                before = now;
                String what = "number " + now[0] + ", n " + now[1] + ", length " + now[2];
                check.same(what, vault.feed(1, head % 4), dueOf(now, keeps));
                if (!keeps) {
                    vault.reset();
                }
            }
        }
    }

    private static int dueOf(int[] head, boolean keeps) {
        int n = head[1];
        boolean tells = n >= 1 && n <= 4 && head[0] <= n + 1 && head[2] >= 20 * n - 19 && head[2] <= 20 * n;
        if (!tells) {
            return -1;
        }
        return keeps && (n != 2 || head[2] != 33) ? -2 : head[0];
    }

    /** It is the corrected symbols that tell: two errors in the head of a good page, and of one that tells none. */
    private static void headsThatAreCorrected(Check check) {
        for (int i = 4; i < 8; i++) {
            for (int k = i + 1; k < 8; k++) {
                Vault good = Vaults.printed(20);
                Vaults.addToSymbol(good, 1, 0, i, 15);
                Vaults.addToSymbol(good, 1, 0, k, 15);
                check.due("a good head with errors", () -> good.feed(1, 0), 1);
                check.due("its errors", () -> good.errors(0), 2);
                Vault bad = Vaults.printed(20);
                Vaults.changeHead(bad, 1, PRINTED, new int[] {1, 1, 21});
                Vaults.addToSymbol(bad, 1, 0, i, 1);
                Vaults.addToSymbol(bad, 1, 0, k, 1);
                check.due("a bad head with errors", () -> bad.feed(1, 0), -1);
                check.due("its errors", () -> bad.errors(0), 2);
            }
        }
    }

    private static void besideTheLengthThatIsKept(Check check) {
        for (int length : new int[] {22, 30, 32, 39}) {
            for (int other : new int[] {length - 1, length, length + 1}) {
                Vault vault = Vaults.printed(length);
                vault.feed(0, 0);
                Vaults.printAnew(vault, Vaults.bytes(other));
                for (int p = 0; p < 4; p++) {
                    int page = p;
                    check.due("page " + page + " of " + other + " when one of " + length + " is kept",
                        () -> vault.feed(page, page), other == length ? page : -2);
                }
                check.due("missing() then", () -> vault.missing(), other == length ? 0 : 3);
            }
        }
    }

    private static void anotherNThatIsKept(Check check) {
        for (int n = 1; n <= 4; n++) {
            for (int other = 1; other <= 4; other++) {
                Vault vault = Vaults.printed(20 * n);
                vault.feed(n, 1);
                Vaults.printAnew(vault, Vaults.bytes(20 * other));
                for (int p = 0; p < other + 2; p++) {
                    int page = p;
                    check.due("page " + page + " with n " + other + " when one with n " + n + " is kept",
                        () -> vault.feed(page, page % 4), other == n ? page : -2);
                }
                check.due("reset() then", () -> vault.reset(), other == n ? n + 2 : 1);
            }
        }
    }

    private static void strangeThoughTheNumberIsKept(Check check) {
        Vault vault = Vaults.printed(20);
        Vaults.feedAll(vault, 0, 1, 2);
        Vaults.printAnew(vault, Vaults.bytes(19));
        for (int p = 0; p < 3; p++) {
            int page = p;
            check.due("a strange page " + page + " when all are kept", () -> vault.feed(page, 0), -2);
        }
        check.due("missing() then", () -> vault.missing(), 0);
        check.due("the document", () -> Vaults.rebuilt(vault), Vaults.bytes(20));
    }

    private static void unreadableGoesBeforeStrange(Check check) {
        for (int r = 0; r < 4; r++) {
            Vault past = strangeAfterTwenty();
            Vaults.ruinRow(past, 1, r);
            check.same("a strange page with a row past correction", past.feed(1, 0), -1);
            check.same("its errors", past.errors(r), -1);
        }
        Vault frame = strangeAfterTwenty();
        frame.blot(1, 0, 0, 18, 1, false);
        check.same("a strange page with an unreadable frame", frame.feed(1, 0), -1);
        Vault head = strangeAfterTwenty();
        Vaults.changeHead(head, 1, new int[] {1, 2, 40}, new int[] {1, 2, 41});
        check.same("a page that tells another n and a wrong length", head.feed(1, 0), -1);
        Vaults.changeHead(head, 1, new int[] {1, 2, 41}, new int[] {3, 1, 20});
        check.same("a page that tells the n and length and a wrong number", head.feed(1, 0), -1);
        check.due("missing() then", () -> head.missing(), 2);
    }

    /** A page of a document of 20 is kept, and one of 40 is printed. */
    private static Vault strangeAfterTwenty() {
        Vault vault = Vaults.printed(20);
        vault.feed(0, 0);
        Vaults.printAnew(vault, Vaults.bytes(40));
        return vault;
    }

    private static void strangePagesChangeNothing(Check check) {
        Looks.Start start = () -> {
            Vault vault = strangeAfterTwenty();
            vault.rebuild();
            vault.feed(3, 0);
            return vault;
        };
        Looks.Start fed = () -> {
            Vault vault = start.make();
            for (int page = 0; page < 4; page++) {
                vault.feed(page, page);
            }
            return vault;
        };
        check.same("what is seen after strange pages", Looks.all(fed), Looks.all(start));
    }

    private static void strangeNoMoreAfterReset(Check check) {
        Vault vault = strangeAfterTwenty();
        check.due("a strange page", () -> vault.feed(3, 0), -2);
        vault.reset();
        check.due("the same page after reset()", () -> vault.feed(3, 0), 3);
        check.due("missing() then", () -> vault.missing(), 3);
        Vaults.printAnew(vault, Vaults.bytes(20));
        check.due("a page like those kept before", () -> vault.feed(0, 0), -2);
    }

    private static void unreadablePagesAreNotTheFirst(Check check) {
        Vault vault = Vaults.printed(20);
        Vaults.ruinRow(vault, 0, 3);
        vault.blot(1, 0, 0, 18, 1, false);
        Vaults.changeHead(vault, 2, new int[] {2, 1, 20}, new int[] {2, 1, 21});
        for (int p = 0; p < 3; p++) {
            int page = p;
            check.due("an unreadable page " + page, () -> vault.feed(page, 0), -1);
        }
        Vaults.printAnew(vault, Vaults.bytes(40));
        check.due("a readable one with another n", () -> vault.feed(3, 0), 3);
        check.due("missing() then", () -> vault.missing(), 3);
    }

    private static void aNumberThatIsKept(Check check) {
        for (int n = 1; n <= 4; n++) {
            int length = 20 * n;
            List<Integer> others = Vaults.bytes(length + 1).subList(1, length + 1);
            Vault vault = Vaults.printed(length);
            for (int page = 0; page < n; page++) {
                vault.feed(page, 0);
            }
            Vaults.printAnew(vault, others);
            for (int p = 0; p < n; p++) {
                int page = p;
                check.due("page " + page + " when it is kept", () -> vault.feed(page, 3), page);
                check.due("missing() then", () -> vault.missing(), 2);
            }
            check.due("the first ones are kept", () -> Vaults.rebuilt(vault), Vaults.bytes(length));
        }
    }
}
