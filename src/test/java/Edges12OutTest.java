import java.util.Collections;

/** The edges of promise 12: each side of 0 and of the length that was rebuilt; nothing rebuilt. */
public final class Edges12OutTest {
    private static final int[] FAR = {-2, -80, 81, 100, 65536, Integer.MIN_VALUE, Integer.MAX_VALUE};

    public static void main(String[] args) {
        Check check = new Check("edges of promise 12");
        besideTheBytes(check);
        farAway(check);
        nothingRebuilt(check);
        nothingRebuiltAfterReset(check);
        shorterThanBefore(check);
        longerThanBefore(check);
        theLeastAndTheGreatestByte(check);
        refusedCallsChangeNothing(check);
        changesNothing(check);
        check.end();
    }

    private static Vault rebuilt(int length) {
        Vault vault = Vaults.printed(length);
        rebuild(vault, length);
        return vault;
    }

    private static void rebuild(Vault vault, int length) {
        for (int page = 0; page < (length + 19) / 20; page++) {
            vault.feed(page, 0);
        }
        vault.rebuild();
    }

    private static void besideTheBytes(Check check) {
        for (int length = 1; length <= 80; length++) {
            Vault vault = rebuilt(length);
            int last = length - 1;
            check.throwsIndex("out(-1) of " + length, () -> vault.out(-1));
            check.due("out(0) of " + length, () -> vault.out(0), Vaults.byteAt(0));
            check.due("the last byte of " + length, () -> vault.out(last), Vaults.byteAt(last));
            check.throwsIndex("the byte behind the last of " + length, () -> vault.out(last + 1));
        }
    }

    private static void farAway(Check check) {
        for (int i : FAR) {
            check.throwsIndex("out(" + i + ") of 80", () -> rebuilt(80).out(i));
            check.throwsIndex("out(" + i + ") of 1", () -> rebuilt(1).out(i));
        }
    }

    private static void nothingRebuilt(Check check) {
        for (int i : new int[] {-1, 0, 1, 79, 80}) {
            check.throwsIndex("out of a new object", () -> new Vault().out(i));
            check.throwsIndex("out of a full document", () -> Vaults.loaded(80).out(i));
            check.throwsIndex("out of printed pages", () -> Vaults.printed(80).out(i));
            Vault kept = Vaults.printed(80);
            Vaults.feedAll(kept, 0, 1, 2, 3, 4, 5);
            check.throwsIndex("out when all are kept, and nothing is rebuilt", () -> kept.out(i));
            Vault refused = Vaults.printed(80);
            Vaults.feedAll(refused, 0, 1, 2);
            check.throwsState("rebuild() of too few", () -> refused.rebuild());
            check.throwsIndex("out after a rebuild that is refused", () -> refused.out(i));
        }
    }

    private static void nothingRebuiltAfterReset(Check check) {
        for (int i : new int[] {-1, 0, 79, 80}) {
            Vault vault = rebuilt(80);
            vault.reset();
            check.throwsIndex("out after reset()", () -> vault.out(i));
            check.throwsState("rebuild() after reset()", () -> vault.rebuild());
            check.throwsIndex("out after it", () -> vault.out(i));
        }
    }

    private static void shorterThanBefore(Check check) {
        Vault vault = rebuilt(80);
        vault.reset();
        Vaults.printAnew(vault, Collections.nCopies(21, 3));
        rebuild(vault, 21);
        check.due("out(20) of 21 after 80", () -> vault.out(20), 3);
        check.throwsIndex("out(21) of 21 after 80", () -> vault.out(21));
        check.throwsIndex("out(79) of 21 after 80", () -> vault.out(79));
    }

    private static void longerThanBefore(Check check) {
        Vault vault = rebuilt(1);
        vault.reset();
        Vaults.printAnew(vault, Collections.nCopies(80, 4));
        Vaults.feedAll(vault, 0, 1, 2);
        check.throwsIndex("out(0) before it is rebuilt", () -> vault.out(0));
        rebuild(vault, 80);
        check.due("out(79) of 80 after 1", () -> vault.out(79), 4);
        check.throwsIndex("out(80) of 80 after 1", () -> vault.out(80));
    }

    private static void theLeastAndTheGreatestByte(Check check) {
        for (int b : new int[] {0, 255}) {
            Vault vault = new Vault();
            Vaults.printAnew(vault, Collections.nCopies(80, b));
            rebuild(vault, 80);
            for (int i = 0; i < 80; i++) {
                int at = i;
                check.due("out(" + at + ") of bytes " + b, () -> vault.out(at), b);
            }
        }
    }

    private static void refusedCallsChangeNothing(Check check) {
        Refusal used = new Refusal(check, "a used object", Vaults::busy);
        for (int i : new int[] {-1, 45, 46, 80, Integer.MIN_VALUE, Integer.MAX_VALUE}) {
            used.index("out(" + i + ")", vault -> vault.out(i));
        }
        new Refusal(check, "nothing rebuilt", () -> Vaults.printed(45)).index("out(0)", vault -> vault.out(0));
    }

    private static void changesNothing(Check check) {
        Looks.Start asked = () -> {
            Vault vault = Vaults.busy();
            vault.out(0);
            vault.out(44);
            return vault;
        };
        check.same("what is seen after out", Looks.all(asked), Looks.all(Vaults::busy));
    }
}
