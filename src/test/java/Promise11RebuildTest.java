import java.util.ArrayList;
import java.util.List;

/** Promise 11: puts the document together. */
public final class Promise11RebuildTest {
    public static void main(String[] args) {
        Check check = new Check("promise 11");
        anyPagesThatAreEnough(check);
        pagesThatDisagree(check);
        tooFewLeaveTheRebuilt(check);
        check.end();
    }

    private static void anyPagesThatAreEnough(Check check) {
        for (int length : new int[] {1, 7, 20, 21, 33, 40, 41, 60, 61, 79, 80}) {
            int n = (length + 19) / 20;
            for (int set = 1; set < 1 << (n + 2); set++) {
                Vault vault = Vaults.printed(length);
                check.throwsState("rebuild() when none is kept", () -> vault.rebuild());
                for (int page = 0; page < n + 2; page++) {
                    if ((set >> page & 1) == 1) {
                        vault.feed(page, 0);
                    }
                }
                String what = "length " + length + ", pages " + Integer.toBinaryString(set);
                if (Integer.bitCount(set) < n) {
                    check.throwsState(what, () -> vault.rebuild());
                } else {
                    check.due(what, () -> Vaults.rebuilt(vault), Vaults.bytes(length));
                }
            }
        }
    }

    /** Pages that are not of one document show which of them the lost one is taken from. */
    private static void pagesThatDisagree(Check check) {
        check.due("all kept: taken as they are", () -> mixed(0b1111, 1, 2, 5, 9), bytes(0x11, 0x22));
        check.due("page 1 lost: by page n", () -> mixed(0b1101, 1, 2, 5, 9), bytes(0x11, 0x44));
        check.due("page 0 lost: by page n", () -> mixed(0b1110, 1, 2, 5, 9), bytes(0x77, 0x22));
        check.due("page 1 and n lost: by page n + 1", () -> mixed(0b1001, 1, 2, 5, 9), bytes(0x11, 0x44));
        check.due("page 0 and n lost: by page n + 1", () -> mixed(0b1010, 1, 2, 5, 9), bytes(0xDD, 0x22));
        // u + v = 5 and u + 2 v = 9: 3 v = 12, so v = 4 and u = 1.
        check.due("both lost: by both", () -> mixed(0b1100, 1, 2, 5, 9), bytes(0x11, 0x44));
        // u + v = 1 and u + 2 v = 0: 3 v = 1, so v = 14 and u = 15.
        check.due("both lost again: by both", () -> mixed(0b1100, 1, 2, 1, 0), bytes(0xFF, 0xEE));
    }

    /** What is rebuilt of pages with n = 2, page k's payload being the symbol k of these. */
    private static List<Integer> mixed(int set, int... symbols) {
        Vault vault = new Vault();
        for (int page = 0; page < 4; page++) {
            if ((set >> page & 1) == 1) {
                // Pages n and n + 1 of a document whose later pages are 0 are like its page 0.
                int twice = 17 * symbols[page];
                Vaults.printAnew(vault, page == 1 ? bytes(0, twice) : bytes(twice, 0));
                vault.feed(page, 0);
            }
        }
        return Vaults.rebuilt(vault);
    }

    private static List<Integer> bytes(int onFirstPage, int onSecond) {
        List<Integer> bytes = new ArrayList<>();
        for (int i = 0; i < 40; i++) {
            bytes.add(i < 20 ? onFirstPage : onSecond);
        }
        return bytes;
    }

    private static void tooFewLeaveTheRebuilt(Check check) {
        Vault vault = Vaults.printed(61);
        Vaults.feedAll(vault, 0, 1, 2);
        check.throwsState("rebuild() of 3 pages", () -> vault.rebuild());
        check.throwsIndex("out(0) then", () -> vault.out(0));
        vault.feed(5, 0);
        check.due("rebuild() of 4 pages", () -> vault.rebuild(), 61);
        check.due("missing() then", () -> vault.missing(), 2);
        check.due("out(60)", () -> vault.out(60), Vaults.byteAt(60));
        check.due("rebuild() again", () -> vault.rebuild(), 61);
        check.due("out(60) again", () -> vault.out(60), Vaults.byteAt(60));
    }
}
