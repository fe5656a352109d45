import java.util.ArrayList;
import java.util.List;

/**
 * The document's words again, as slowly and directly as they can be said: words and their nearest ones by
 * tables of all cases, lost symbols by trying all, pages by turning them dot for dot.
 */
final class Model {
    static final int SIDE = 18;

    private static final int[] POWERS = powers();
    private static final int[] CHECKS_OF_SUMS = new int[65536];
    private static final int[][] FAULTS_OF_SUMS = new int[65536][];

    static {
        for (int c = 0; c < 65536; c++) {
            CHECKS_OF_SUMS[sums(c & 15, c >> 4 & 15, c >> 8 & 15, c >> 12)] = c;
        }
        FAULTS_OF_SUMS[0] = new int[15];
        for (int i = 0; i < 15; i++) {
            for (int e = 1; e < 16; e++) {
                int[] one = new int[15];
                one[i] = e;
                FAULTS_OF_SUMS[sums(one)] = one;
                for (int k = i + 1; k < 15; k++) {
                    for (int f = 1; f < 16; f++) {
                        int[] two = one.clone();
                        two[k] = f;
                        FAULTS_OF_SUMS[sums(two)] = two;
                    }
                }
            }
        }
    }

    private final List<Integer> document = new ArrayList<>();
    private final List<boolean[][]> pages = new ArrayList<>();
    private final int[][] kept = new int[16][];
    private int keptNeeded = 0;
    private int keptLength = 0;
    private int[] lastErrors = {-2, -2, -2, -2};
    private int[] rebuilt = {};

    /** A model whose document of these bytes is printed. */
    static Model printed(List<Integer> bytes) {
        Model model = new Model();
        for (int b : bytes) {
            model.load(b);
        }
        model.print();
        return model;
    }

    static int product(int a, int b) {
        int raw = 0;
        for (int k = 0; k < 4; k++) {
            if ((b >> k & 1) == 1) {
                raw ^= a << k;
            }
        }
        for (int k = 6; k >= 4; k--) {
            if ((raw >> k & 1) == 1) {
                raw ^= 0b10011 << (k - 4);
            }
        }
        return raw;
    }

    static int power(int exponent) {
        int p = 1;
        for (int i = 0; i < exponent; i++) {
            p = product(p, 2);
        }
        return p;
    }

    /** The four sums that are 0 for a word, four bits each. */
    static int sums(int... row) {
        int all = 0;
        for (int j = 1; j <= 4; j++) {
            int sum = 0;
            for (int i = 0; i < row.length; i++) {
                sum ^= product(row[i], POWERS[i * j % 15]);
            }
            all |= sum << 4 * (j - 1);
        }
        return all;
    }

    private static int[] powers() {
        int[] powers = new int[15];
        for (int i = 0; i < 15; i++) {
            powers[i] = power(i);
        }
        return powers;
    }

    /** The word with these c4 .. c14. */
    static int[] word(int[] eleven) {
        int[] row = new int[15];
        System.arraycopy(eleven, 0, row, 4, 11);
        int checks = CHECKS_OF_SUMS[sums(row)];
        for (int i = 0; i < 4; i++) {
            row[i] = checks >> 4 * i & 15;
        }
        return row;
    }

    /** In how many symbols a row differs from the nearest word; -1 if in more than 2. */
    static int errorsOf(int[] row) {
        int[] faults = FAULTS_OF_SUMS[sums(row)];
        if (faults == null) {
            return -1;
        }
        int errors = 0;
        for (int fault : faults) {
            errors += fault != 0 ? 1 : 0;
        }
        return errors;
    }

    /** A page with these 44 symbols of data, dot [x][y]. */
    static boolean[][] page(int[] data) {
        boolean[][] dots = new boolean[SIDE][SIDE];
        for (int z = 0; z < SIDE; z++) {
            dots[17][z] = z % 2 == 0;
            dots[z][17] = z % 2 == 0;
        }
        for (int z = 0; z < SIDE; z++) {
            dots[0][z] = true;
            dots[z][0] = true;
        }
        for (int r = 0; r < 4; r++) {
            int[] eleven = new int[11];
            System.arraycopy(data, 11 * r, eleven, 0, 11);
            int[] row = word(eleven);
            for (int i = 0; i < 15; i++) {
                int b = 4 * i + r;
                int x = 1 + 2 * (b % 8);
                int y = 1 + 2 * (b / 8);
                dots[x][y] = (row[i] & 1) != 0;
                dots[x + 1][y] = (row[i] & 2) != 0;
                dots[x][y + 1] = (row[i] & 4) != 0;
                dots[x + 1][y + 1] = (row[i] & 8) != 0;
            }
        }
        return dots;
    }

    /** The data of all pages that a document makes. */
    static int[][] data(List<Integer> document) {
        int length = document.size();
        int n = (length + 19) / 20;
        int[][] data = new int[n + 2][44];
        for (int k = 0; k < n + 2; k++) {
            data[k][0] = k;
            data[k][1] = n;
            data[k][2] = length % 16;
            data[k][3] = length / 16;
        }
        for (int i = 0; i < length; i++) {
            data[i / 20][4 + 2 * (i % 20)] = document.get(i) % 16;
            data[i / 20][5 + 2 * (i % 20)] = document.get(i) / 16;
        }
        for (int m = 4; m < 44; m++) {
            for (int k = 0; k < n; k++) {
                data[n][m] ^= data[k][m];
                data[n + 1][m] ^= product(power(k), data[k][m]);
            }
        }
        return data;
    }

    static boolean[][] turn(boolean[][] dots) {
        boolean[][] turned = new boolean[SIDE][SIDE];
        for (int x = 0; x < SIDE; x++) {
            for (int y = 0; y < SIDE; y++) {
                turned[17 - y][x] = dots[x][y];
            }
        }
        return turned;
    }

    private static int frameFaults(boolean[][] dots) {
        boolean[][] clean = page(new int[44]);
        int faults = 0;
        for (int x = 0; x < SIDE; x++) {
            for (int y = 0; y < SIDE; y++) {
                boolean frame = x == 0 || x == 17 || y == 0 || y == 17;
                if (frame && dots[x][y] != clean[x][y]) {
                    faults++;
                }
            }
        }
        return faults;
    }

    int load(int b) {
        if (b < 0 || b > 255) {
            throw new IllegalArgumentException();
        }
        if (document.size() == 80) {
            throw new IllegalStateException();
        }
        document.add(b);
        return document.size();
    }

    int wipe() {
        int had = document.size();
        document.clear();
        return had;
    }

    int print() {
        if (document.isEmpty()) {
            throw new IllegalStateException();
        }
        pages.clear();
        for (int[] data : data(document)) {
            pages.add(page(data));
        }
        return pages.size();
    }

    private boolean[][] dots(int page, int x, int y) {
        if (page < 0 || page >= pages.size() || x < 0 || x > 17 || y < 0 || y > 17) {
            throw new IllegalArgumentException();
        }
        return pages.get(page);
    }

    boolean dot(int page, int x, int y) {
        return dots(page, x, y)[x][y];
    }

    int blot(int page, int x, int y, int wide, int high, boolean black) {
        boolean[][] dots = dots(page, x, y);
        if (wide < 1 || wide > 18 || high < 1 || high > 18) {
            throw new IllegalArgumentException();
        }
        int otherwise = 0;
        for (int i = 0; i < SIDE; i++) {
            for (int j = 0; j < SIDE; j++) {
                boolean hit = i >= x && i < x + wide && j >= y && j < y + high;
                if (hit && dots[i][j] != black) {
                    dots[i][j] = black;
                    otherwise++;
                }
            }
        }
        return otherwise;
    }

    void flip(int page, int x, int y) {
        boolean[][] dots = dots(page, x, y);
        dots[x][y] = !dots[x][y];
    }

    int feed(int page, int turns) {
        boolean[][] dots = dots(page, 0, 0);
        if (turns < 0 || turns > 3) {
            throw new IllegalArgumentException();
        }
        for (int t = 0; t < turns; t++) {
            dots = turn(dots);
        }
        boolean[][] best = dots;
        for (int t = 1; t < 4; t++) {
            dots = turn(dots);
            if (frameFaults(dots) < frameFaults(best)) {
                best = dots;
            }
        }
        lastErrors = new int[] {-2, -2, -2, -2};
        return frameFaults(best) > 8 ? -1 : readUpright(best);
    }

    private int readUpright(boolean[][] dots) {
        int[] data = new int[44];
        boolean past = false;
        for (int r = 0; r < 4; r++) {
            int[] row = rowOf(dots, r);
            int[] faults = FAULTS_OF_SUMS[sums(row)];
            lastErrors[r] = errorsOf(row);
            past |= faults == null;
            for (int i = 0; faults != null && i < 15; i++) {
                row[i] ^= faults[i];
            }
            System.arraycopy(row, 4, data, 11 * r, 11);
        }
        int n = data[1];
        int length = data[2] + 16 * data[3];
        if (past || n < 1 || n > 4 || data[0] > n + 1 || length < 20 * n - 19 || length > 20 * n) {
            return -1;
        }
        return keep(data[0], n, length, data);
    }

    static int[] rowOf(boolean[][] dots, int r) {
        int[] row = new int[15];
        for (int i = 0; i < 15; i++) {
            int x = 1 + 2 * ((4 * i + r) % 8);
            int y = 1 + 2 * ((4 * i + r) / 8);
            row[i] = (dots[x][y] ? 1 : 0) + (dots[x + 1][y] ? 2 : 0)
                + (dots[x][y + 1] ? 4 : 0) + (dots[x + 1][y + 1] ? 8 : 0);
        }
        return row;
    }

    private int keep(int number, int n, int length, int[] data) {
        if (keptCount() == 0) {
            keptNeeded = n;
            keptLength = length;
        }
        if (n != keptNeeded || length != keptLength) {
            return -2;
        }
        if (kept[number] == null) {
            kept[number] = new int[40];
            System.arraycopy(data, 4, kept[number], 0, 40);
        }
        return number;
    }

    private int keptCount() {
        int count = 0;
        for (int[] payload : kept) {
            count += payload != null ? 1 : 0;
        }
        return count;
    }

    int errors(int row) {
        if (row < 0 || row > 3) {
            throw new IllegalArgumentException();
        }
        return lastErrors[row];
    }

    int missing() {
        return keptCount() == 0 ? -1 : keptNeeded + 2 - keptCount();
    }

    int rebuild() {
        if (keptCount() == 0 || keptCount() < keptNeeded) {
            throw new IllegalStateException();
        }
        int[][] symbols = new int[keptNeeded][40];
        for (int m = 0; m < 40; m++) {
            rebuildPlace(symbols, m);
        }
        rebuilt = new int[keptLength];
        for (int i = 0; i < keptLength; i++) {
            rebuilt[i] = symbols[i / 20][2 * (i % 20)] + 16 * symbols[i / 20][2 * (i % 20) + 1];
        }
        return keptLength;
    }

    private void rebuildPlace(int[][] symbols, int m) {
        List<Integer> lost = new ArrayList<>();
        for (int k = 0; k < keptNeeded; k++) {
            if (kept[k] == null) {
                lost.add(k);
            } else {
                symbols[k][m] = kept[k][m];
            }
        }
        if (lost.isEmpty()) {
            return;
        }
        boolean byPlain = kept[keptNeeded] != null;
        boolean byWeighted = lost.size() == 2 || !byPlain;
        for (int guess = 0; guess < (lost.size() == 2 ? 256 : 16); guess++) {
            symbols[lost.get(0)][m] = guess % 16;
            if (lost.size() == 2) {
                symbols[lost.get(1)][m] = guess / 16;
            }
            if ((!byPlain || plain(symbols, m) == kept[keptNeeded][m])
                && (!byWeighted || weighted(symbols, m) == kept[keptNeeded + 1][m])) {
                return;
            }
        }
        throw new AssertionError("no symbols make the pages right");
    }

    private static int plain(int[][] symbols, int m) {
        int sum = 0;
        for (int[] page : symbols) {
            sum ^= page[m];
        }
        return sum;
    }

    private static int weighted(int[][] symbols, int m) {
        int sum = 0;
        for (int k = 0; k < symbols.length; k++) {
            sum ^= product(power(k), symbols[k][m]);
        }
        return sum;
    }

    int out(int i) {
        if (i < 0 || i >= rebuilt.length) {
            throw new IndexOutOfBoundsException();
        }
        return rebuilt[i];
    }

    int reset() {
        int had = keptCount();
        java.util.Arrays.fill(kept, null);
        rebuilt = new int[0];
        return had;
    }
}
