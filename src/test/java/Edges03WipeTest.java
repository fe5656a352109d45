/** The edges of promise 3: a document that is empty; pages and what the reader keeps stay. */
public final class Edges03WipeTest {
    public static void main(String[] args) {
        Check check = new Check("edges of promise 3");
        ofAnEmptyDocument(check);
        ofOneByteAndOfEighty(check);
        leavesAnEmptyDocument(check);
        pagesStay(check);
        whatTheReaderKeepsStays(check);
        ofAnEmptyDocumentChangesNothing(check);
        check.end();
    }

    private static void ofAnEmptyDocument(Check check) {
        check.due("wipe() of a new object", () -> new Vault().wipe(), 0);
        Vault wiped = Vaults.loaded(5);
        wiped.wipe();
        check.due("wipe() of a wiped document", () -> wiped.wipe(), 0);
        Vault printed = Vaults.printed(5);
        printed.wipe();
        check.due("wipe() when pages are printed", () -> printed.wipe(), 0);
    }

    private static void ofOneByteAndOfEighty(Check check) {
        for (int length : new int[] {1, 79, 80}) {
            check.due("wipe() of " + length, () -> Vaults.loaded(length).wipe(), length);
            check.due("wipe() of " + length + " that are printed", () -> Vaults.printed(length).wipe(), length);
        }
    }

    private static void leavesAnEmptyDocument(Check check) {
        Vault vault = Vaults.printed(80);
        vault.wipe();
        check.throwsState("print() after wipe()", () -> vault.print());
        check.due("load after wipe()", () -> vault.load(1), 1);
        check.due("print() of the one byte", () -> vault.print(), 3);
    }

    private static void pagesStay(Check check) {
        for (int length : new int[] {1, 20, 21, 61, 80}) {
            check.same("pages of " + length + " after wipe()", Looks.pages(() -> wiped(Vaults.printed(length), 1)),
                Looks.pages(() -> Vaults.printed(length)));
        }
        check.same("damaged pages after wipe()", Looks.pages(() -> wiped(Vaults.busy(), 1)),
            Looks.pages(Vaults::busy));
    }

    private static void whatTheReaderKeepsStays(Check check) {
        check.same("the reader after wipe()", Looks.reader(() -> wiped(Vaults.busy(), 1)),
            Looks.reader(Vaults::busy));
        check.same("feeds after wipe()", Looks.feeds(() -> wiped(Vaults.busy(), 1)), Looks.feeds(Vaults::busy));
    }

    private static void ofAnEmptyDocumentChangesNothing(Check check) {
        check.same("a new object after wipe()", Looks.all(() -> wiped(new Vault(), 1)), Looks.all(Vault::new));
        check.same("a used object wiped twice", Looks.all(() -> wiped(Vaults.busy(), 2)),
            Looks.all(() -> wiped(Vaults.busy(), 1)));
    }

    private static Vault wiped(Vault vault, int times) {
        for (int time = 0; time < times; time++) {
            vault.wipe();
        }
        return vault;
    }
}
