import java.util.List;

/** Promise 2: one more byte of the document, and how many it has. */
public final class Promise02LoadTest {
    public static void main(String[] args) {
        Check check = new Check("promise 2");
        countsUpToEighty(check);
        refusesWhatIsNoByte(check);
        takesEveryByte(check);
        leavesPrintedPages(check);
        check.end();
    }

    private static void countsUpToEighty(Check check) {
        Vault vault = new Vault();
        for (int i = 0; i < 80; i++) {
            int b = Vaults.byteAt(i);
            check.due("load " + i, () -> vault.load(b), i + 1);
        }
        check.throwsState("the 81st load", () -> vault.load(0));
        check.throwsState("the 81st load again", () -> vault.load(255));
        check.throwsArgument("load(256) when there are 80", () -> vault.load(256));
        check.throwsArgument("load(-1) when there are 80", () -> vault.load(-1));
        vault.print();
        Vaults.feedAll(vault, 0, 1, 2, 3);
        check.due("the document", () -> Vaults.rebuilt(vault), Vaults.bytes(80));
        check.due("wipe()", () -> vault.wipe(), 80);
    }

    private static void refusesWhatIsNoByte(Check check) {
        Vault vault = new Vault();
        for (int b : new int[] {-1, 256, 257, 1000, -256, Integer.MIN_VALUE, Integer.MAX_VALUE}) {
            check.throwsArgument("load(" + b + ")", () -> vault.load(b));
        }
        check.due("load(0) then", () -> vault.load(0), 1);
        check.due("load(255) then", () -> vault.load(255), 2);
    }

    private static void takesEveryByte(Check check) {
        for (int b = 0; b < 256; b++) {
            int wanted = b;
            Vault vault = new Vault();
            vault.load(b);
            vault.print();
            vault.feed(0, 0);
            check.due("the document of byte " + b, () -> Vaults.rebuilt(vault), List.of(wanted));
        }
    }

    private static void leavesPrintedPages(Check check) {
        Vault vault = Vaults.printed(20);
        check.due("load after print", () -> vault.load(9), 21);
        check.due("page 0 after load", () -> Vaults.picture(vault, 0), Vaults.cleanPicture(20, 0));
        check.throwsArgument("page 3 after load", () -> vault.dot(3, 0, 0));
    }
}
