import java.util.ArrayList;
import java.util.List;

/** Objects of DotVault in a wanted state, and ways to damage or forge their pages. */
final class Vaults {
    private Vaults() {
    }

    /** Byte i of the documents that the tests use. */
    static int byteAt(int i) {
        return (i * 37 + 5) % 256;
    }

    static List<Integer> bytes(int length) {
        List<Integer> bytes = new ArrayList<>();
        for (int i = 0; i < length; i++) {
            bytes.add(byteAt(i));
        }
        return bytes;
    }

    static DotVault loaded(int length) {
        DotVault vault = new DotVault();
        loadAll(vault, bytes(length));
        return vault;
    }

    static DotVault printed(int length) {
        DotVault vault = loaded(length);
        vault.print();
        return vault;
    }

    static void loadAll(DotVault vault, List<Integer> bytes) {
        for (int b : bytes) {
            vault.load(b);
        }
    }

    static void printAnew(DotVault vault, List<Integer> bytes) {
        vault.wipe();
        loadAll(vault, bytes);
        vault.print();
    }

    static void feedAll(DotVault vault, int... pages) {
        for (int page : pages) {
            vault.feed(page, 0);
        }
    }

    /** Adds the given symbol to ci of a row of a printed page. */
    static void addToSymbol(DotVault vault, int page, int r, int i, int symbol) {
        int x = 1 + 2 * ((4 * i + r) % 8);
        int y = 1 + 2 * ((4 * i + r) / 8);
        for (int bit = 0; bit < 4; bit++) {
            if ((symbol >> bit & 1) == 1) {
                vault.flip(page, x + bit % 2, y + bit / 2);
            }
        }
    }

    /** Adds 1, 1 and 2 to c4, c5 and c6 of a row: no word is then within two symbols of it. */
    static void ruinRow(DotVault vault, int page, int r) {
        addToSymbol(vault, page, r, 4, 1);
        addToSymbol(vault, page, r, 5, 1);
        addToSymbol(vault, page, r, 6, 2);
    }

    static boolean[][] dots(DotVault vault, int page) {
        boolean[][] dots = new boolean[18][18];
        for (int x = 0; x < 18; x++) {
            for (int y = 0; y < 18; y++) {
                dots[x][y] = vault.dot(page, x, y);
            }
        }
        return dots;
    }

    static String picture(boolean[][] dots) {
        StringBuilder text = new StringBuilder();
        for (int y = 0; y < 18; y++) {
            for (int x = 0; x < 18; x++) {
                text.append(dots[x][y] ? '#' : '.');
            }
            text.append('/');
        }
        return text.toString();
    }

    /** Makes a printed page one that has these dots. */
    static void draw(DotVault vault, int page, boolean[][] dots) {
        for (int x = 0; x < 18; x++) {
            for (int y = 0; y < 18; y++) {
                vault.blot(page, x, y, 1, 1, dots[x][y]);
            }
        }
    }

    /** Makes a printed page one whose data tell this number, n and length, with a payload of one symbol. */
    static void forge(DotVault vault, int page, int number, int n, int length, int symbol) {
        int[] data = new int[44];
        java.util.Arrays.fill(data, symbol);
        data[0] = number;
        data[1] = n;
        data[2] = length % 16;
        data[3] = length / 16;
        draw(vault, page, Model.page(data));
    }

    static String errorsOf(DotVault vault) {
        return vault.errors(0) + " " + vault.errors(1) + " " + vault.errors(2) + " " + vault.errors(3);
    }

    static List<Integer> rebuilt(DotVault vault) {
        List<Integer> bytes = new ArrayList<>();
        int length = vault.rebuild();
        for (int i = 0; i < length; i++) {
            bytes.add(vault.out(i));
        }
        return bytes;
    }
}
