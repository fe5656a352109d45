/**
 * Prints a document as pages of dots that can be read though they are damaged, turned, or missing.
 */
public final class DotVault {
    private static final int MOST_BYTES = 80;
    private static final int PAGE_BYTES = 20;
    private static final int MOST_NEEDED = 4;
    private static final int SPARE_PAGES = 2;
    private static final int MOST_PAGES = MOST_NEEDED + SPARE_PAGES;

    private static final int HEAD = 4;
    private static final int PAYLOAD = 2 * PAGE_BYTES;
    private static final int DATA = HEAD + PAYLOAD;

    private static final int ROWS = 4;
    private static final int ROW_LENGTH = 15;
    private static final int CHECKS = 4;
    private static final int ROW_DATA = ROW_LENGTH - CHECKS;

    private static final int SIDE = 18;
    private static final int LAST = SIDE - 1;
    private static final int BLOCKS_ACROSS = 8;
    private static final int MOST_FRAME_FAULTS = 8;
    private static final int ALL_TURNS = 4;

    private static final int PAST_CORRECTION = -1;
    private static final int NO_ROW_READ = -2;
    private static final int UNREADABLE = -1;
    private static final int STRANGE = -2;
    private static final int NONE = -1;

    private final int[] document = new int[MOST_BYTES];
    private int length = 0;
    private final Sheet[] sheets = new Sheet[MOST_PAGES];
    private int printed = 0;
    private final int[] data = new int[DATA];
    private final Row word = new Row();
    private final Column column = new Column();
    private final Scan scan = new Scan();
    private final Reader reader = new Reader();

    public DotVault() {
        for (int page = 0; page < MOST_PAGES; page++) {
            sheets[page] = new Sheet();
        }
    }

    public int load(int b) throws IllegalArgumentException, IllegalStateException {
        if (b < 0 || b > 255) {
            throw new IllegalArgumentException("a byte is 0 .. 255");
        }
        if (length >= MOST_BYTES) {
            throw new IllegalStateException("the document is full");
        }
        document[length] = b;
        length++;
        return length;
    }

    public int wipe() {
        int had = length;
        length = 0;
        return had;
    }

    public int print() throws IllegalStateException {
        if (length == 0) {
            throw new IllegalStateException("the document is empty");
        }
        int needed = (length + PAGE_BYTES - 1) / PAGE_BYTES;
        printed = needed + SPARE_PAGES;
        for (int page = 0; page < printed; page++) {
            writeData(page, needed);
            drawSheet(sheets[page]);
        }
        return printed;
    }

    public boolean dot(int page, int x, int y) throws IllegalArgumentException {
        if (!hasDot(page, x, y)) {
            throw new IllegalArgumentException("no such page or dot");
        }
        return sheets[page].isBlack(x, y);
    }

    public int blot(int page, int x, int y, int wide, int high, boolean black) throws IllegalArgumentException {
        if (!hasDot(page, x, y)) {
            throw new IllegalArgumentException("no such page or dot");
        }
        if (wide < 1 || wide > SIDE || high < 1 || high > SIDE) {
            throw new IllegalArgumentException("a blot is 1 .. 18 wide and high");
        }
        int right = Math.min(x + wide, SIDE);
        int bottom = Math.min(y + high, SIDE);
        return sheets[page].paint(x, y, right, bottom, black);
    }

    public void flip(int page, int x, int y) throws IllegalArgumentException {
        if (!hasDot(page, x, y)) {
            throw new IllegalArgumentException("no such page or dot");
        }
        sheets[page].invert(x, y);
    }

    public int feed(int page, int turns) throws IllegalArgumentException {
        if (!hasPage(page)) {
            throw new IllegalArgumentException("no such page");
        }
        if (turns < 0 || turns >= ALL_TURNS) {
            throw new IllegalArgumentException("a page is turned 0 .. 3 times");
        }
        if (!scan.read(sheets[page], turns)) {
            return UNREADABLE;
        }
        return reader.keep(scan) ? scan.number() : STRANGE;
    }

    public int errors(int row) throws IllegalArgumentException {
        if (row < 0 || row >= ROWS) {
            throw new IllegalArgumentException("no such row");
        }
        return scan.errorsOf(row);
    }

    public int missing() {
        return reader.lacking();
    }

    public int rebuild() throws IllegalStateException {
        if (!reader.hasEnough()) {
            throw new IllegalStateException("too few pages are kept");
        }
        return reader.putTogether();
    }

    public int out(int i) throws IndexOutOfBoundsException {
        if (i < 0 || i >= reader.rebuiltLength()) {
            throw new IndexOutOfBoundsException("no such byte was rebuilt");
        }
        return reader.rebuiltByte(i);
    }

    public int reset() {
        return reader.forget();
    }

    private boolean hasPage(int page) {
        return page >= 0 && page < printed;
    }

    private boolean hasDot(int page, int x, int y) {
        return hasPage(page) && x >= 0 && x < SIDE && y >= 0 && y < SIDE;
    }

    private void writeData(int page, int needed) {
        data[0] = page;
        data[1] = needed;
        data[2] = length % 16;
        data[3] = length / 16;
        for (int m = 0; m < PAYLOAD; m++) {
            for (int k = 0; k < needed; k++) {
                column.set(k, documentSymbol(k, m));
            }
            column.addSpares(needed);
            data[HEAD + m] = column.get(page);
        }
    }

    private int documentSymbol(int page, int m) {
        int place = page * PAGE_BYTES + m / 2;
        if (place >= length) {
            return 0;
        }
        return m % 2 == 0 ? document[place] % 16 : document[place] / 16;
    }

    private void drawSheet(Sheet sheet) {
        sheet.whiten();
        sheet.drawFrame();
        for (int r = 0; r < ROWS; r++) {
            word.takeData(data, r);
            word.complete();
            word.draw(sheet, r);
        }
    }

    /** The arithmetic of the symbols 0 .. 15; their sum is Java's ^. */
    private static final class Symbols {
        private static final int[] POWERS = {1, 2, 4, 8, 3, 6, 12, 11, 5, 10, 7, 14, 15, 13, 9};
        // The place of each symbol in POWERS; 0 is no power, and its entry is never used.
        private static final int[] EXPONENTS = {0, 0, 1, 4, 2, 8, 5, 10, 3, 14, 9, 7, 6, 13, 11, 12};
        private static final int ORDER = 15;

        /** A to the given exponent, which is not negative. */
        static int power(int exponent) {
            return POWERS[exponent % ORDER];
        }

        static int product(int a, int b) {
            if (a == 0 || b == 0) {
                return 0;
            }
            return POWERS[(EXPONENTS[a] + EXPONENTS[b]) % ORDER];
        }

        /** The symbol whose product with b is a; b is not 0. */
        static int quotient(int a, int b) {
            if (a == 0 || b == 0) {
                return 0;
            }
            return POWERS[(EXPONENTS[a] + ORDER - EXPONENTS[b]) % ORDER];
        }

        /** The v of the one pair u, v with u + v = plain and a u + b v = weighted; a and b differ. */
        static int secondOfTwo(int plain, int weighted, int a, int b) {
            return quotient(weighted ^ product(a, plain), a ^ b);
        }
    }

    /** A row of 15 symbols, made a word when it is printed and brought back to one when it is read. */
    private static final class Row {
        // (x + A) (x + A^2) (x + A^3) (x + A^4), lowest coefficient first, without the leading 1:
        // words are its multiples.
        private static final int[] DIVISOR = {7, 8, 12, 13};

        private final int[] symbols = new int[ROW_LENGTH];
        private final int[] sums = new int[CHECKS];

        void takeData(int[] data, int r) {
            System.arraycopy(data, ROW_DATA * r, symbols, CHECKS, ROW_DATA);
        }

        void giveData(int[] data, int r) {
            System.arraycopy(symbols, CHECKS, data, ROW_DATA * r, ROW_DATA);
        }

        void draw(Sheet sheet, int r) {
            for (int i = 0; i < ROW_LENGTH; i++) {
                sheet.drawSymbol(ROWS * i + r, symbols[i]);
            }
        }

        void lift(Sheet sheet, int r, int turns) {
            for (int i = 0; i < ROW_LENGTH; i++) {
                symbols[i] = sheet.symbolAt(ROWS * i + r, turns);
            }
        }

        /** Sets c0 .. c3 to the remainder of the other symbols' division by DIVISOR. */
        void complete() {
            for (int j = 0; j < CHECKS; j++) {
                symbols[j] = 0;
            }
            for (int i = ROW_LENGTH - 1; i >= CHECKS; i--) {
                int carry = symbols[i] ^ symbols[CHECKS - 1];
                for (int j = CHECKS - 1; j > 0; j--) {
                    symbols[j] = symbols[j - 1] ^ Symbols.product(carry, DIVISOR[j]);
                }
                symbols[0] = Symbols.product(carry, DIVISOR[0]);
            }
        }

        /** Makes the row the nearest word; how many symbols were wrong, or PAST_CORRECTION. */
        int correct() {
            findSums();
            if (isWord()) {
                return 0;
            }
            if (correctOne()) {
                return 1;
            }
            if (correctTwo()) {
                return 2;
            }
            return PAST_CORRECTION;
        }

        private void findSums() {
            for (int j = 0; j < CHECKS; j++) {
                int sum = 0;
                for (int i = 0; i < ROW_LENGTH; i++) {
                    sum ^= Symbols.product(symbols[i], Symbols.power(i * (j + 1)));
                }
                sums[j] = sum;
            }
        }

        private boolean isWord() {
            return (sums[0] | sums[1] | sums[2] | sums[3]) == 0;
        }

        private boolean correctOne() {
            for (int i = 0; i < ROW_LENGTH; i++) {
                if (areSumsOf(i, sums[0], i, 0)) {
                    mend(i, sums[0]);
                    return true;
                }
            }
            return false;
        }

        private boolean correctTwo() {
            for (int i = 0; i < ROW_LENGTH; i++) {
                for (int k = i + 1; k < ROW_LENGTH; k++) {
                    int v = Symbols.secondOfTwo(sums[0], sums[1], Symbols.power(i), Symbols.power(k));
                    int u = sums[0] ^ v;
                    if (areSumsOf(i, u, k, v)) {
                        mend(i, u);
                        mend(k, v);
                        return true;
                    }
                }
            }
            return false;
        }

        /** Whether faults that bring u (at i) and v (at k) into the first sum bring the later sums too. */
        private boolean areSumsOf(int i, int u, int k, int v) {
            for (int j = 1; j < CHECKS; j++) {
                int atFirst = Symbols.product(u, Symbols.power(i * j));
                int atSecond = Symbols.product(v, Symbols.power(k * j));
                if ((atFirst ^ atSecond) != sums[j]) {
                    return false;
                }
            }
            return true;
        }

        private void mend(int i, int inFirstSum) {
            symbols[i] ^= Symbols.quotient(inFirstSum, Symbols.power(i));
        }
    }

    /** The symbols that stand at one place of the payloads of all pages. */
    private static final class Column {
        private final int[] symbols = new int[MOST_PAGES];

        int get(int page) {
            return symbols[page];
        }

        void set(int page, int symbol) {
            symbols[page] = symbol;
        }

        void addSpares(int needed) {
            symbols[needed] = plainSum(needed);
            symbols[needed + 1] = weightedSum(needed);
        }

        /** Finds the symbol of the lost page, which is 0 until then, by page n. */
        void restoreByPlain(int needed, int lost) {
            symbols[lost] = symbols[needed] ^ plainSum(needed);
        }

        /** Finds the symbol of the lost page, which is 0 until then, by page n + 1. */
        void restoreByWeighted(int needed, int lost) {
            int rest = symbols[needed + 1] ^ weightedSum(needed);
            symbols[lost] = Symbols.quotient(rest, Symbols.power(lost));
        }

        /** Finds the symbols of two lost pages, which are 0 until then. */
        void restoreTwo(int needed, int first, int second) {
            int plain = symbols[needed] ^ plainSum(needed);
            int weighted = symbols[needed + 1] ^ weightedSum(needed);
            symbols[second] = Symbols.secondOfTwo(plain, weighted, Symbols.power(first), Symbols.power(second));
            symbols[first] = plain ^ symbols[second];
        }

        private int plainSum(int needed) {
            int sum = 0;
            for (int k = 0; k < needed; k++) {
                sum ^= symbols[k];
            }
            return sum;
        }

        private int weightedSum(int needed) {
            int sum = 0;
            for (int k = 0; k < needed; k++) {
                sum ^= Symbols.product(Symbols.power(k), symbols[k]);
            }
            return sum;
        }
    }

    /** The dots of a page. */
    private static final class Sheet {
        // One number for each y; its bit x is 1 where the dot is black.
        private final int[] lines = new int[SIDE];

        boolean isBlack(int x, int y) {
            return (lines[y] >> x & 1) == 1;
        }

        void invert(int x, int y) {
            lines[y] ^= 1 << x;
        }

        /** Colours the dots from left, top up to but without right, bottom; how many were otherwise. */
        int paint(int left, int top, int right, int bottom, boolean black) {
            int changed = 0;
            for (int y = top; y < bottom; y++) {
                for (int x = left; x < right; x++) {
                    if (isBlack(x, y) != black) {
                        invert(x, y);
                        changed++;
                    }
                }
            }
            return changed;
        }

        void whiten() {
            for (int y = 0; y < SIDE; y++) {
                lines[y] = 0;
            }
        }

        void drawFrame() {
            for (int i = 0; i < LAST; i++) {
                drawFrameDot(i, 0);
                drawFrameDot(LAST, i);
                drawFrameDot(LAST - i, LAST);
                drawFrameDot(0, LAST - i);
            }
        }

        void drawSymbol(int block, int symbol) {
            int x = blockX(block);
            int y = blockY(block);
            for (int bit = 0; bit < 4; bit++) {
                paint(x + bit % 2, y + bit / 2, x + bit % 2 + 1, y + bit / 2 + 1, (symbol >> bit & 1) == 1);
            }
        }

        /** The symbol in a block, as it is seen when the page has been turned so many times. */
        int symbolAt(int block, int turns) {
            int x = blockX(block);
            int y = blockY(block);
            int symbol = 0;
            for (int bit = 0; bit < 4; bit++) {
                if (isBlackTurned(x + bit % 2, y + bit / 2, turns)) {
                    symbol |= 1 << bit;
                }
            }
            return symbol;
        }

        /** How many dots of the frame are wrong when the page has been turned so many times. */
        int frameFaults(int turns) {
            int faults = 0;
            for (int i = 0; i < LAST; i++) {
                faults += frameFault(i, 0, turns);
                faults += frameFault(LAST, i, turns);
                faults += frameFault(LAST - i, LAST, turns);
                faults += frameFault(0, LAST - i, turns);
            }
            return faults;
        }

        private void drawFrameDot(int x, int y) {
            paint(x, y, x + 1, y + 1, isFrameBlack(x, y));
        }

        private int frameFault(int x, int y, int turns) {
            return isBlackTurned(x, y, turns) == isFrameBlack(x, y) ? 0 : 1;
        }

        // A turn takes the dot at x, y to 17 - y, x; so at x, y is then seen what was at y, 17 - x.
        private boolean isBlackTurned(int x, int y, int turns) {
            switch (turns) {
                case 1:
                    return isBlack(y, LAST - x);
                case 2:
                    return isBlack(LAST - x, LAST - y);
                case 3:
                    return isBlack(LAST - y, x);
                default:
                    return isBlack(x, y);
            }
        }

        private static boolean isFrameBlack(int x, int y) {
            return x == 0 || y == 0 || x == LAST && y % 2 == 0 || y == LAST && x % 2 == 0;
        }

        private static int blockX(int block) {
            return 1 + 2 * (block % BLOCKS_ACROSS);
        }

        private static int blockY(int block) {
            return 1 + 2 * (block / BLOCKS_ACROSS);
        }
    }

    /** What was read from the page that was fed last. */
    private static final class Scan {
        private final int[] data = new int[DATA];
        private final int[] rowErrors = {NO_ROW_READ, NO_ROW_READ, NO_ROW_READ, NO_ROW_READ};
        private final Row row = new Row();

        int number() {
            return data[0];
        }

        int needed() {
            return data[1];
        }

        int length() {
            return data[2] + 16 * data[3];
        }

        int payload(int m) {
            return data[HEAD + m];
        }

        int errorsOf(int r) {
            return rowErrors[r];
        }

        /** Reads a page that has been turned so many times; whether it is readable. */
        boolean read(Sheet sheet, int turned) {
            int turns = uprightTurns(sheet, turned);
            if (sheet.frameFaults(turns) > MOST_FRAME_FAULTS) {
                forgetErrors();
                return false;
            }
            return readRows(sheet, turns) && tellsPage();
        }

        private static int uprightTurns(Sheet sheet, int turned) {
            int best = turned;
            int fewest = sheet.frameFaults(turned);
            for (int more = 1; more < ALL_TURNS; more++) {
                int turns = (turned + more) % ALL_TURNS;
                int faults = sheet.frameFaults(turns);
                if (faults < fewest) {
                    best = turns;
                    fewest = faults;
                }
            }
            return best;
        }

        private void forgetErrors() {
            for (int r = 0; r < ROWS; r++) {
                rowErrors[r] = NO_ROW_READ;
            }
        }

        // All rows are read though one is past correction, for each has its own errors.
        private boolean readRows(Sheet sheet, int turns) {
            boolean allWords = true;
            for (int r = 0; r < ROWS; r++) {
                row.lift(sheet, r, turns);
                rowErrors[r] = row.correct();
                row.giveData(data, r);
                allWords = allWords && rowErrors[r] != PAST_CORRECTION;
            }
            return allWords;
        }

        private boolean tellsPage() {
            int most = PAGE_BYTES * needed();
            return needed() >= 1 && needed() <= MOST_NEEDED
                && number() <= needed() + 1
                && length() > most - PAGE_BYTES && length() <= most;
        }
    }

    /** Keeps the payloads of pages that were read, and puts the document together from them. */
    private static final class Reader {
        private final int[][] payloads = new int[MOST_PAGES][PAYLOAD];
        private final boolean[] isKept = new boolean[MOST_PAGES];
        private int kept = 0;
        // Of the page that was kept first; they mean nothing while none is kept.
        private int needed = 0;
        private int length = 0;
        private final int[] rebuilt = new int[MOST_BYTES];
        private int rebuiltLength = 0;
        private final Column column = new Column();

        int rebuiltLength() {
            return rebuiltLength;
        }

        int rebuiltByte(int i) {
            return rebuilt[i];
        }

        /** Keeps a readable page unless its number is kept; false if it is strange. */
        boolean keep(Scan scan) {
            if (kept == 0) {
                needed = scan.needed();
                length = scan.length();
            }
            if (scan.needed() != needed || scan.length() != length) {
                return false;
            }
            if (!isKept[scan.number()]) {
                store(scan);
            }
            return true;
        }

        int lacking() {
            return kept == 0 ? NONE : needed + SPARE_PAGES - kept;
        }

        boolean hasEnough() {
            return kept > 0 && kept >= needed;
        }

        /** The length of the document; to be called only when there are enough pages. */
        int putTogether() {
            int first = nextLost(0);
            int second = nextLost(first + 1);
            for (int m = 0; m < PAYLOAD; m++) {
                fillColumn(m);
                restoreLost(first, second);
                storeSymbols(m);
            }
            rebuiltLength = length;
            return length;
        }

        /** How many pages were kept. */
        int forget() {
            int had = kept;
            kept = 0;
            for (int page = 0; page < MOST_PAGES; page++) {
                isKept[page] = false;
            }
            rebuiltLength = 0;
            return had;
        }

        private void store(Scan scan) {
            int number = scan.number();
            for (int m = 0; m < PAYLOAD; m++) {
                payloads[number][m] = scan.payload(m);
            }
            isKept[number] = true;
            kept++;
        }

        /** The first page from there on, below n, that is not kept; n if there is none. */
        private int nextLost(int from) {
            for (int page = from; page < needed; page++) {
                if (!isKept[page]) {
                    return page;
                }
            }
            return needed;
        }

        private void fillColumn(int m) {
            for (int page = 0; page < MOST_PAGES; page++) {
                column.set(page, isKept[page] ? payloads[page][m] : 0);
            }
        }

        private void restoreLost(int first, int second) {
            if (second < needed) {
                column.restoreTwo(needed, first, second);
            } else if (first < needed && isKept[needed]) {
                column.restoreByPlain(needed, first);
            } else if (first < needed) {
                column.restoreByWeighted(needed, first);
            }
        }

        private void storeSymbols(int m) {
            for (int page = 0; page < needed; page++) {
                int place = page * PAGE_BYTES + m / 2;
                if (m % 2 == 0) {
                    rebuilt[place] = column.get(page);
                } else {
                    rebuilt[place] += 16 * column.get(page);
                }
            }
        }
    }
}
