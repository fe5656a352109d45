/** A DotVault that is used for no more calls than the document promises to answer. */
final class Vault {
    private static final int MOST_CALLS = 512;

    private final DotVault vault = new DotVault();
    private int calls = 0;

    int load(int b) {
        return counted().load(b);
    }

    int wipe() {
        return counted().wipe();
    }

    int print() {
        return counted().print();
    }

    boolean dot(int page, int x, int y) {
        return counted().dot(page, x, y);
    }

    int blot(int page, int x, int y, int wide, int high, boolean black) {
        return counted().blot(page, x, y, wide, high, black);
    }

    void flip(int page, int x, int y) {
        counted().flip(page, x, y);
    }

    int feed(int page, int turns) {
        return counted().feed(page, turns);
    }

    int errors(int row) {
        return counted().errors(row);
    }

    int missing() {
        return counted().missing();
    }

    int rebuild() {
        return counted().rebuild();
    }

    int out(int i) {
        return counted().out(i);
    }

    int reset() {
        return counted().reset();
    }

    // An error and no exception, so that no test can take it for an answer.
    private DotVault counted() {
        calls++;
        if (calls > MOST_CALLS) {
            throw new AssertionError("a test uses one object for more than " + MOST_CALLS + " calls");
        }
        return vault;
    }
}
