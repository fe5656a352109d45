/** Pages and dots beside those that are there, for the three calls that name a dot. */
final class Places {
    /** A call that names a dot. */
    interface Call {
        Object at(Vault vault, int page, int x, int y);
    }

    private static final int[] BESIDE = {-1, 0, 17, 18};
    private static final int[] FAR = {-2, 19, 32, 64, 324, 65536, Integer.MIN_VALUE, Integer.MAX_VALUE};

    private final Check check;
    private final String name;
    private final Call call;

    Places(Check check, String name, Call call) {
        this.check = check;
        this.name = name;
        this.call = call;
    }

    void checkAll() {
        besideThePages();
        besideThePagesPrintedLast();
        besideTheDots();
        farAway();
        refusedCallsChangeNothing();
    }

    private void besideThePages() {
        for (int page : new int[] {-1, 0, 1}) {
            due("no page is printed", Vaults.loaded(80), page, 0, 0, false);
        }
        for (int n = 1; n <= 4; n++) {
            for (int length : new int[] {20 * n - 19, 20 * n}) {
                for (int page = -2; page <= 8; page++) {
                    due(length + " bytes are printed", Vaults.printed(length), page, 5, 5, page >= 0 && page <= n + 1);
                }
            }
        }
    }

    private void besideThePagesPrintedLast() {
        for (int page = 2; page <= 6; page++) {
            Vault fewer = Vaults.printed(80);
            Vaults.printAnew(fewer, Vaults.bytes(20));
            due("80 bytes, then 20 are printed", fewer, page, 5, 5, page <= 2);
            Vault more = Vaults.printed(20);
            Vaults.printAnew(more, Vaults.bytes(80));
            due("20 bytes, then 80 are printed", more, page, 5, 5, page <= 5);
            Vault loaded = Vaults.printed(20);
            loaded.load(1);
            due("21 bytes are there, 20 are printed", loaded, page, 5, 5, page <= 2);
            Vault wiped = Vaults.printed(20);
            wiped.wipe();
            due("20 bytes are printed and wiped", wiped, page, 5, 5, page <= 2);
        }
    }

    private void besideTheDots() {
        for (int x : BESIDE) {
            for (int y : BESIDE) {
                boolean there = x >= 0 && x <= 17 && y >= 0 && y <= 17;
                for (int page = 0; page < 3; page++) {
                    due("20 bytes are printed", Vaults.printed(20), page, x, y, there);
                }
                due("20 bytes are printed", Vaults.printed(20), -1, x, y, false);
                due("20 bytes are printed", Vaults.printed(20), 3, x, y, false);
            }
        }
    }

    private void farAway() {
        for (int far : FAR) {
            due("20 bytes are printed", Vaults.printed(20), far, 0, 0, false);
            due("20 bytes are printed", Vaults.printed(20), 0, far, 0, false);
            due("20 bytes are printed", Vaults.printed(20), 0, 0, far, false);
            due("20 bytes are printed", Vaults.printed(20), far, far, far, false);
        }
    }

    private void refusedCallsChangeNothing() {
        int[][] wrong = {{-1, 0, 0}, {5, 17, 17}, {6, 0, 0}, {0, -1, 0}, {0, 18, 0}, {0, 0, -1}, {0, 0, 18},
            {4, 18, 17}, {4, 17, 18}, {0, 32, 0}, {0, 0, 32}};
        Refusal used = new Refusal(check, "a used object", Vaults::busy);
        for (int[] place : wrong) {
            used.argument(told(place[0], place[1], place[2]), vault -> call.at(vault, place[0], place[1], place[2]));
        }
        Refusal unprinted = new Refusal(check, "no page printed", () -> Vaults.loaded(80));
        unprinted.argument(told(0, 0, 0), vault -> call.at(vault, 0, 0, 0));
    }

    private void due(String state, Vault vault, int page, int x, int y, boolean there) {
        String answer = Check.answer(() -> call.at(vault, page, x, y));
        String what = state + ": " + told(page, x, y);
        if (there) {
            check.same(what + " is refused", answer.startsWith("throws"), false);
        } else {
            check.same(what, answer, "throws.IllegalArgumentException");
        }
    }

    private String told(int page, int x, int y) {
        return name + " at page " + page + ", x " + x + ", y " + y;
    }
}
