import java.util.ArrayList;
import java.util.List;

/** The edges of promise 11: none kept; fewer than n; which pages are not kept, and which of n and n + 1 is. */
public final class Edges11RebuildTest {
    public static void main(String[] args) {
        Check check = new Check("edges of promise 11");
        noneKept(check);
        fewerThanN(check);
        justNAreEnough(check);
        noneOfThePagesBelowNIsLost(check);
        oneIsLost(check);
        twoAreLost(check);
        anyPagesOfDifferentDocuments(check);
        lengthsBesideTwenty(check);
        rebuildLeavesTheRest(check);
        check.end();
    }

    private static void noneKept(Check check) {
        new Refusal(check, "a new object", Vault::new).state("rebuild()", vault -> vault.rebuild());
        new Refusal(check, "printed pages", () -> Vaults.printed(20)).state("rebuild()", vault -> vault.rebuild());
        new Refusal(check, "an unreadable page fed", () -> {
            Vault vault = Vaults.printed(20);
            Vaults.ruinRow(vault, 0, 0);
            vault.feed(0, 0);
            return vault;
        }).state("rebuild()", vault -> vault.rebuild());
        new Refusal(check, "a reader after reset()", () -> {
            Vault vault = Vaults.busy();
            vault.reset();
            return vault;
        }).state("rebuild()", vault -> vault.rebuild());
    }

    private static void fewerThanN(Check check) {
        for (int n = 2; n <= 4; n++) {
            for (int set = 1; set < 1 << (n + 2); set++) {
                if (Integer.bitCount(set) < n) {
                    int pages = set;
                    int length = 20 * n - 19;
                    new Refusal(check, "n " + n + ", pages " + Integer.toBinaryString(set), () -> fed(length, pages))
                        .state("rebuild()", vault -> vault.rebuild());
                }
            }
        }
    }

    private static Vault fed(int length, int set) {
        Vault vault = Vaults.printed(length);
        for (int page = 0; page < 6; page++) {
            if ((set >> page & 1) == 1) {
                vault.feed(page, page % 4);
            }
        }
        return vault;
    }

    private static void justNAreEnough(Check check) {
        for (int n = 1; n <= 4; n++) {
            for (int set = 1; set < 1 << (n + 2); set++) {
                if (Integer.bitCount(set) == n) {
                    for (int length : new int[] {20 * n - 19, 20 * n}) {
                        Vault vault = fed(length, set);
                        check.due("length " + length + ", pages " + Integer.toBinaryString(set),
                            () -> Vaults.rebuilt(vault), Vaults.bytes(length));
                    }
                }
            }
        }
    }

    /** Pages n and n + 1 are then not asked, though they would tell otherwise. */
    private static void noneOfThePagesBelowNIsLost(Check check) {
        check.due("n 1, page 0 kept", () -> mixed(9, -1, -1), told(9));
        check.due("n 1, pages 0 and 1 kept", () -> mixed(9, 1, -1), told(9));
        check.due("n 1, pages 0 and 2 kept", () -> mixed(9, -1, 2), told(9));
        check.due("n 1, all kept", () -> mixed(9, 1, 2), told(9));
        check.due("n 2, all kept", () -> mixed(9, 8, 1, 2), told(9, 8));
        check.due("n 3, all kept", () -> mixed(9, 8, 7, 1, 2), told(9, 8, 7));
    }

    private static void oneIsLost(Check check) {
        check.due("n 1, page n alone", () -> mixed(-1, 5, -1), told(5));
        check.due("n 1, page n + 1 alone", () -> mixed(-1, -1, 6), told(6));
        check.due("n 1, both: page n", () -> mixed(-1, 5, 6), told(5));
        check.due("n 2, page 0 lost, page n", () -> mixed(-1, 3, 5, -1), told(6, 3));
        check.due("n 2, page 0 lost, both: page n", () -> mixed(-1, 3, 5, 1), told(6, 3));
        // 2 times 3 is 6, and 6 + 1 is 7.
        check.due("n 2, page 0 lost, page n + 1", () -> mixed(-1, 3, -1, 1), told(7, 3));
        check.due("n 2, page 1 lost, page n", () -> mixed(3, -1, 5, -1), told(3, 6));
        check.due("n 2, page 1 lost, both: page n", () -> mixed(3, -1, 5, 1), told(3, 6));
        // 3 + 1 is 2, which is 2 times 1.
        check.due("n 2, page 1 lost, page n + 1", () -> mixed(3, -1, -1, 1), told(3, 1));
        check.due("n 3, page 2 lost, both: page n", () -> mixed(1, 2, -1, 4, 0), told(1, 2, 7));
        // 1 + 2 times 2 is 5, and 5 + 1 is 4, which is 4 times 1.
        check.due("n 3, page 2 lost, page n + 1", () -> mixed(1, 2, -1, -1, 1), told(1, 2, 1));
    }

    /** The lost symbols u and v are those with which both page n and page n + 1 would be right. */
    private static void twoAreLost(Check check) {
        // u + v = 5, u + 2 v = 9: 3 v = 12, v = 4.
        check.due("n 2, pages 0 and 1", () -> mixed(-1, -1, 5, 9), told(1, 4));
        check.due("n 2, pages 0 and 1, all symbols 0", () -> mixed(-1, -1, 0, 0), told(0, 0));
        // u + v = 1, 2 u + 4 v = 0: u = 2 v, 3 v = 1, v = 14, u = 15.
        check.due("n 3, pages 1 and 2", () -> mixed(0, -1, -1, 1, 0), told(0, 15, 14));
        // u + v = 5, u + 4 v = 0: u = 4 v, 5 v = 5, v = 1, u = 4.
        check.due("n 3, pages 0 and 2", () -> mixed(-1, 0, -1, 5, 0), told(4, 0, 1));
    }

    /** What is rebuilt when page k's payload is the symbol k of these in all places; -1 for a page that is not kept. */
    private static List<Integer> mixed(int... symbols) {
        Vault vault = new Vault();
        int n = symbols.length - 2;
        for (int page = 0; page < n + 2; page++) {
            if (symbols[page] != -1) {
                // Pages n and n + 1 of a document whose later pages are 0 are like its page 0.
                int[] document = new int[n];
                document[page < n ? page : 0] = symbols[page];
                Vaults.printAnew(vault, told(document));
                vault.feed(page, 0);
            }
        }
        return Vaults.rebuilt(vault);
    }

    /** A document whose page k has the symbol k of these in all places of its payload. */
    private static List<Integer> told(int... symbols) {
        List<Integer> bytes = new ArrayList<>();
        for (int symbol : symbols) {
            for (int i = 0; i < 20; i++) {
                bytes.add(17 * symbol);
            }
        }
        return bytes;
    }

    /** Every set of pages, each page of a document of its own: the model finds the symbols by trying all. */
    private static void anyPagesOfDifferentDocuments(Check check) {
        for (int n = 1; n <= 4; n++) {
            for (int set = 1; set < 1 << (n + 2); set++) {
                for (int length : new int[] {20 * n - 19, 20 * n - 10}) {
                    differentDocuments(check, length, set);
                }
            }
        }
    }

    private static void differentDocuments(Check check, int length, int set) {
        Vault vault = new Vault();
        Model model = new Model();
        for (int page = 0; page < 6; page++) {
            if ((set >> page & 1) == 1) {
                int first = 1 + 3 * page + set;
                List<Integer> document = Vaults.bytes(first + length).subList(first, first + length);
                Vaults.printAnew(vault, document);
                model.wipe();
                document.forEach(model::load);
                model.print();
                vault.feed(page, 0);
                model.feed(page, 0);
            }
        }
        String what = "length " + length + ", pages " + Integer.toBinaryString(set);
        check.due("rebuild(), " + what, vault::rebuild, Check.answer(model::rebuild));
        for (int i = 0; i < length; i++) {
            int at = i;
            check.due("out(" + at + "), " + what, () -> vault.out(at), Check.answer(() -> model.out(at)));
        }
    }

    private static void lengthsBesideTwenty(Check check) {
        for (int length : new int[] {1, 2, 19, 20, 21, 22, 39, 40, 41, 59, 60, 61, 79, 80}) {
            Vault vault = Vaults.printed(length);
            for (int page = 2; page < (length + 19) / 20 + 2; page++) {
                vault.feed(page, 0);
            }
            check.due("rebuild() of " + length, () -> vault.rebuild(), length);
            check.due("the last byte", () -> vault.out(length - 1), Vaults.byteAt(length - 1));
            check.throwsIndex("the byte behind it", () -> vault.out(length));
        }
    }

    private static void rebuildLeavesTheRest(Check check) {
        Looks.Start start = () -> fed(61, 0b110011);
        Looks.Start rebuilt = () -> {
            Vault vault = start.make();
            vault.rebuild();
            return vault;
        };
        check.same("pages after rebuild()", Looks.pages(rebuilt), Looks.pages(start));
        check.same("the document after rebuild()", Looks.document(rebuilt), Looks.document(start));
        check.same("feeds after rebuild()", Looks.feeds(rebuilt), Looks.feeds(start));
        check.due("missing() after rebuild()", () -> rebuilt.make().missing(), 2);
        check.due("errors after rebuild()", () -> Vaults.errorsOf(rebuilt.make()), "0 0 0 0");
        Looks.Start again = () -> {
            Vault vault = rebuilt.make();
            vault.rebuild();
            return vault;
        };
        check.same("what is seen after rebuild() again", Looks.all(again), Looks.all(rebuilt));
    }
}
