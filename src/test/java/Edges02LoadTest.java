import java.util.List;

/** The edges of promise 2: a byte that is not 0 .. 255; a document of 80. */
public final class Edges02LoadTest {
    private static final int[] NO_BYTES = {-1, 256, -256, 256 + 65, 65536, Integer.MIN_VALUE, Integer.MAX_VALUE};

    public static void main(String[] args) {
        Check check = new Check("edges of promise 2");
        theLeastAndTheGreatestByte(check);
        justNoByte(check);
        theLastByteThatHasRoom(check);
        oneByteTooMany(check);
        fullAndNoByte(check);
        roomAgainAfterWipe(check);
        noRoomAfterPrint(check);
        pagesAndReaderStay(check);
        refusedLoadsChangeNothing(check);
        check.end();
    }

    private static void theLeastAndTheGreatestByte(Check check) {
        for (int b : new int[] {0, 255}) {
            Vault vault = new Vault();
            check.due("load(" + b + ")", () -> vault.load(b), 1);
            vault.print();
            vault.feed(0, 0);
            check.due("the document of " + b, () -> Vaults.rebuilt(vault), List.of(b));
        }
    }

    private static void justNoByte(Check check) {
        for (int b : NO_BYTES) {
            Vault vault = Vaults.loaded(3);
            check.throwsArgument("load(" + b + ")", () -> vault.load(b));
            check.due("load(1) after it", () -> vault.load(1), 4);
        }
    }

    private static void theLastByteThatHasRoom(Check check) {
        Vault vault = Vaults.loaded(79);
        check.due("the 80th load", () -> vault.load(Vaults.byteAt(79)), 80);
        check.due("print() of 80", () -> vault.print(), 6);
        Vaults.feedAll(vault, 2, 3, 4, 5);
        check.due("the document of 80", () -> Vaults.rebuilt(vault), Vaults.bytes(80));
    }

    private static void oneByteTooMany(Check check) {
        for (int b : new int[] {0, 1, 255}) {
            Vault vault = Vaults.loaded(80);
            check.throwsState("load(" + b + ") when there are 80", () -> vault.load(b));
            check.throwsState("and again", () -> vault.load(b));
            check.due("wipe() after it", () -> vault.wipe(), 80);
        }
    }

    /** Both are wrong; the document names the byte first. */
    private static void fullAndNoByte(Check check) {
        for (int b : NO_BYTES) {
            Vault vault = Vaults.loaded(80);
            check.throwsArgument("load(" + b + ") when there are 80", () -> vault.load(b));
            check.throwsState("load(0) after it", () -> vault.load(0));
        }
    }

    private static void roomAgainAfterWipe(Check check) {
        Vault vault = Vaults.loaded(80);
        vault.wipe();
        for (int i = 1; i <= 80; i++) {
            int count = i;
            check.due("load " + count + " after wipe()", () -> vault.load(count), count);
        }
        check.throwsState("load 81 after wipe()", () -> vault.load(81));
    }

    private static void noRoomAfterPrint(Check check) {
        Vault vault = Vaults.printed(80);
        check.throwsState("load when 80 are printed", () -> vault.load(0));
        check.due("wipe() after it", () -> vault.wipe(), 80);
    }

    private static void pagesAndReaderStay(Check check) {
        Looks.Start loaded = () -> {
            Vault vault = Vaults.busy();
            vault.load(200);
            return vault;
        };
        check.same("pages after load", Looks.pages(loaded), Looks.pages(Vaults::busy));
        check.same("the reader after load", Looks.reader(loaded), Looks.reader(Vaults::busy));
        check.same("feeds after load", Looks.feeds(loaded), Looks.feeds(Vaults::busy));
    }

    private static void refusedLoadsChangeNothing(Check check) {
        for (int b : NO_BYTES) {
            for (int length : new int[] {0, 1, 79, 80}) {
                new Refusal(check, length + " bytes", () -> Vaults.loaded(length))
                    .argument("load(" + b + ")", vault -> vault.load(b));
            }
            new Refusal(check, "a used object", Vaults::busy).argument("load(" + b + ")", vault -> vault.load(b));
        }
        new Refusal(check, "80 bytes", () -> Vaults.loaded(80)).state("load(0)", vault -> vault.load(0));
        new Refusal(check, "80 bytes, printed", () -> Vaults.printed(80)).state("load(0)", vault -> vault.load(0));
    }
}
