import java.util.ArrayList;
import java.util.List;

/** Objects of DotVault in a wanted state, and ways to damage or forge their pages. */
final class Vaults {
    private Vaults() {
    }

    /** Byte i of the documents that the tests use. */
    static int byteAt(int i) {
        return (i * 37 + 5) % 256;
    }

    static List<Integer> bytes(int length) {
        List<Integer> bytes = new ArrayList<>();
        for (int i = 0; i < length; i++) {
            bytes.add(byteAt(i));
        }
        return bytes;
    }

    static Vault loaded(int length) {
        Vault vault = new Vault();
        loadAll(vault, bytes(length));
        return vault;
    }

    static Vault printed(int length) {
        Vault vault = loaded(length);
        vault.print();
        return vault;
    }

    /** Bytes, damaged pages, pages that are kept, a document rebuilt, errors of the last page: none of it new. */
    static Vault busy() {
        Vault vault = printed(45);
        vault.flip(1, 9, 9);
        vault.blot(3, 5, 5, 2, 4, true);
        feedAll(vault, 0, 2, 4);
        vault.rebuild();
        vault.feed(1, 3);
        vault.load(7);
        return vault;
    }

    static void loadAll(Vault vault, List<Integer> bytes) {
        for (int b : bytes) {
            vault.load(b);
        }
    }

    static void printAnew(Vault vault, List<Integer> bytes) {
        vault.wipe();
        loadAll(vault, bytes);
        vault.print();
    }

    static void feedAll(Vault vault, int... pages) {
        for (int page : pages) {
            vault.feed(page, 0);
        }
    }

    /** Adds the given symbol to ci of a row of a printed page. */
    static void addToSymbol(Vault vault, int page, int r, int i, int symbol) {
        for (int bit = 0; bit < 4; bit++) {
            if ((symbol >> bit & 1) == 1) {
                vault.flip(page, dotX(r, i, bit), dotY(r, i, bit));
            }
        }
    }

    static void addToSymbol(Model model, int page, int r, int i, int symbol) {
        for (int bit = 0; bit < 4; bit++) {
            if ((symbol >> bit & 1) == 1) {
                model.flip(page, dotX(r, i, bit), dotY(r, i, bit));
            }
        }
    }

    private static int dotX(int r, int i, int bit) {
        return 1 + 2 * ((4 * i + r) % 8) + bit % 2;
    }

    private static int dotY(int r, int i, int bit) {
        return 1 + 2 * ((4 * i + r) / 8) + bit / 2;
    }

    /** Adds 1, 1 and 2 to c4, c5 and c6 of a row: no word is then within two symbols of it. */
    static void ruinRow(Vault vault, int page, int r) {
        addToSymbol(vault, page, r, 4, 1);
        addToSymbol(vault, page, r, 5, 1);
        addToSymbol(vault, page, r, 6, 2);
    }

    static boolean[][] dots(Vault vault, int page) {
        boolean[][] dots = new boolean[18][18];
        for (int x = 0; x < 18; x++) {
            for (int y = 0; y < 18; y++) {
                dots[x][y] = vault.dot(page, x, y);
            }
        }
        return dots;
    }

    /** What a page looks like when the tests' document of this length has just been printed. */
    static boolean[][] cleanDots(int length, int page) {
        return Model.page(Model.data(bytes(length))[page]);
    }

    static String cleanPicture(int length, int page) {
        return picture(cleanDots(length, page));
    }

    static String picture(Vault vault, int page) {
        return picture(dots(vault, page));
    }

    static String picture(boolean[][] dots) {
        StringBuilder text = new StringBuilder();
        for (int y = 0; y < 18; y++) {
            for (int x = 0; x < 18; x++) {
                text.append(dots[x][y] ? '#' : '.');
            }
            text.append('/');
        }
        return text.toString();
    }

    /** Makes a printed page that has some dots one that has others, with no call where they are alike. */
    static void redraw(Vault vault, int page, boolean[][] from, boolean[][] to) {
        for (int x = 0; x < 18; x++) {
            for (int y = 0; y < 18; y++) {
                if (from[x][y] != to[x][y]) {
                    vault.flip(page, x, y);
                }
            }
        }
    }

    /** Makes a printed page that tells one number, n and length one that tells others; its rows stay words. */
    static void changeHead(Vault vault, int page, int[] from, int[] to) {
        int[] eleven = new int[11];
        eleven[0] = from[0] ^ to[0];
        eleven[1] = from[1] ^ to[1];
        eleven[2] = from[2] % 16 ^ to[2] % 16;
        eleven[3] = from[2] / 16 ^ to[2] / 16;
        addWord(vault, page, 0, eleven);
    }

    /** Adds to a row the word with these c4 .. c14: the sum of two words is a word. */
    static void addWord(Vault vault, int page, int r, int... eleven) {
        int[] word = Model.word(eleven);
        for (int i = 0; i < 15; i++) {
            addToSymbol(vault, page, r, i, word[i]);
        }
    }

    static String errorsOf(Vault vault) {
        return vault.errors(0) + " " + vault.errors(1) + " " + vault.errors(2) + " " + vault.errors(3);
    }

    static List<Integer> rebuilt(Vault vault) {
        List<Integer> bytes = new ArrayList<>();
        int length = vault.rebuild();
        for (int i = 0; i < length; i++) {
            bytes.add(vault.out(i));
        }
        return bytes;
    }
}
