/** An object is used for at most 512 calls: the last of them is answered like any other. */
public final class EdgesLastCallTest {
    /** The last call, and its answer. */
    interface Last {
        Object of(Vault vault);
    }

    public static void main(String[] args) {
        Check check = new Check("the 512th call");
        due(check, "load", vault -> vault.load(8), "throws.IllegalStateException");
        due(check, "wipe", vault -> vault.wipe(), 80);
        due(check, "print", vault -> vault.print(), 6);
        due(check, "dot", vault -> vault.dot(5, 17, 16), true);
        due(check, "blot", vault -> vault.blot(5, 0, 0, 18, 1, false), 18);
        due(check, "feed", vault -> vault.feed(5, 3), 5);
        due(check, "errors", vault -> vault.errors(3), 0);
        due(check, "missing", vault -> vault.missing(), 2);
        due(check, "rebuild", vault -> vault.rebuild(), 80);
        due(check, "out", vault -> vault.out(79), Vaults.byteAt(79));
        due(check, "reset", vault -> vault.reset(), 4);
        check.end();
    }

    private static void due(Check check, String call, Last last, Object want) {
        Vault vault = Vaults.printed(80);
        Vaults.feedAll(vault, 0, 1, 2, 3);
        vault.rebuild();
        for (int made = 86; made < 511; made++) {
            vault.feed(made % 4, made / 4 % 4);
        }
        check.due("call 512, " + call, () -> last.of(vault), want);
    }
}
