import java.util.Collections;

/** Promise 12: byte i of what was rebuilt last. */
public final class Promise12OutTest {
    public static void main(String[] args) {
        Check check = new Check("promise 12");
        for (int length : new int[] {1, 19, 20, 21, 40, 59, 80}) {
            Vault vault = Vaults.printed(length);
            Vaults.feedAll(vault, 1, 2);
            for (int page = 3; page < (length + 19) / 20 + 2; page++) {
                vault.feed(page, 0);
            }
            check.throwsIndex("out(0) before rebuild()", () -> vault.out(0));
            vault.rebuild();
            for (int i = 0; i < length; i++) {
                int at = i;
                check.due("out(" + at + ") of " + length, () -> vault.out(at), Vaults.byteAt(at));
            }
            for (int i : new int[] {-1, length, length + 1, 80, 81, Integer.MIN_VALUE, Integer.MAX_VALUE}) {
                check.throwsIndex("out(" + i + ") of " + length, () -> vault.out(i));
            }
        }
        whatWasRebuiltLast(check);
        check.end();
    }

    private static void whatWasRebuiltLast(Check check) {
        Vault vault = new Vault();
        Vaults.printAnew(vault, Collections.nCopies(40, 0));
        Vaults.feedAll(vault, 2);
        Vaults.printAnew(vault, Vaults.bytes(40));
        Vaults.feedAll(vault, 3);
        vault.rebuild();
        int first = vault.out(0);
        Vaults.feedAll(vault, 0, 1);
        check.due("out(0) after more pages", () -> vault.out(0), first);
        check.same("pages of two documents tell another byte", first == Vaults.byteAt(0), false);
        vault.rebuild();
        check.due("out(0) after rebuild()", () -> vault.out(0), Vaults.byteAt(0));
        Vaults.printAnew(vault, Vaults.bytes(3));
        vault.wipe();
        check.due("out(39) after print and wipe", () -> vault.out(39), Vaults.byteAt(39));
        vault.reset();
        Vaults.feedAll(vault, 2);
        check.throwsIndex("out(0) after reset()", () -> vault.out(0));
        vault.rebuild();
        check.due("out(2) of the shorter one", () -> vault.out(2), Vaults.byteAt(2));
        check.throwsIndex("out(3) of the shorter one", () -> vault.out(3));
    }
}
