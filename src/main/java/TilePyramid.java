/**
 * A big picture in levels by exact means, in tiles that are packed by differences and checked by a
 * sum, opened and put back; and the least seam with a strip that is laid over the picture's end.
 */
public final class TilePyramid {
    public static final int NONE = -1;

    private static final int MOST_SIDE = 40;
    private static final int MOST_SAMPLE = 255;
    private static final int MOST_BYTE = 255;
    private static final int MOST_BYTES = 256;
    private static final int MOST_BITS = 9;
    private static final int TILE_SIDE = 8;
    private static final int STRIP_COLUMNS = 8;
    private static final int SUM_BYTES = 2;
    private static final int SUM_FACTOR = 257;
    private static final int SUM_MODULUS = 65521;

    private final Picture picture;
    private final Picture overlay;
    private final Pyramid pyramid;
    private final ByteRow buffer;
    private final SeamFinder seamFinder;
    private Tile latestTile;
    /** Packing and opening work here, so that a failed opening leaves the latest tile alone. */
    private Tile workTile;

    public TilePyramid(int width, int height) {
        int columns = Math.max(1, Math.min(MOST_SIDE, width));
        int rows = Math.max(1, Math.min(MOST_SIDE, height));
        picture = new Picture(columns, rows);
        overlay = new Picture(STRIP_COLUMNS, rows);
        pyramid = new Pyramid(picture);
        buffer = new ByteRow();
        seamFinder = new SeamFinder(picture, overlay);
        latestTile = new Tile();
        workTile = new Tile();
    }

    public int put(int x, int y, int v) throws IndexOutOfBoundsException, IllegalArgumentException {
        return replaceSample(picture, x, y, v);
    }

    public int change(int x, int y, int w, int h, int v)
            throws IndexOutOfBoundsException, IllegalArgumentException {
        requirePlace(pyramid.hasPart(0, x, y, w, h));
        requireSample(v);
        picture.fillPart(x, y, w, h, v);
        return pyramid.tilesOver(x, y, w, h);
    }

    public int levels() {
        return pyramid.count;
    }

    public int size(int level, int axis) throws IndexOutOfBoundsException {
        requirePlace(pyramid.hasLevel(level) && isWithin(axis, 2));
        return axis == 0 ? pyramid.columnsOf(level) : pyramid.rowsOf(level);
    }

    public int at(int level, int x, int y) throws IndexOutOfBoundsException {
        requirePlace(pyramid.hasPlace(level, x, y));
        return pyramid.roundedMean(level, x, y);
    }

    public int mean(int level, int x, int y, int part) throws IndexOutOfBoundsException {
        requirePlace(pyramid.hasPlace(level, x, y) && isWithin(part, 2));
        int total = pyramid.totalUnder(level, x, y);
        int count = pyramid.countUnder(level, x, y);
        int divisor = greatestDivisor(total, count);
        return (part == 0 ? total : count) / divisor;
    }

    public int zoom(int level, int x, int y, int w, int h) throws IndexOutOfBoundsException {
        requirePlace(pyramid.hasPart(level, x, y, w, h));
        int sum = 0;
        for (int row = y; row < y + h; row++) {
            for (int column = x; column < x + w; column++) {
                sum += pyramid.roundedMean(level, column, row);
            }
        }
        return sum;
    }

    public int turned(int x, int y, int quarters) throws IndexOutOfBoundsException {
        int turn = Math.floorMod(quarters, 4);
        boolean lying = turn == 1 || turn == 3;
        int columns = lying ? picture.rows : picture.columns;
        int rows = lying ? picture.columns : picture.rows;
        requirePlace(isWithin(x, columns) && isWithin(y, rows));
        switch (turn) {
            case 1:
                return picture.sampleAt(y, columns - 1 - x);
            case 2:
                return picture.sampleAt(columns - 1 - x, rows - 1 - y);
            case 3:
                return picture.sampleAt(rows - 1 - y, x);
            default:
                return picture.sampleAt(x, y);
        }
    }

    public int pack(int level, int i, int j) throws IndexOutOfBoundsException {
        requirePlace(pyramid.hasTile(level, i, j));
        pyramid.cutTile(level, i, j, workTile);
        TilePacker.packTile(workTile, buffer);
        return buffer.length;
    }

    public int load(int b) throws IllegalStateException, IllegalArgumentException {
        if (buffer.isFull()) {
            throw new IllegalStateException("the buffer is full");
        }
        if (b < 0 || b > MOST_BYTE) {
            throw new IllegalArgumentException("no byte");
        }
        buffer.append(b);
        return buffer.length;
    }

    public int clear() {
        int had = buffer.length;
        buffer.length = 0;
        return had;
    }

    public int byteAt(int k) throws IndexOutOfBoundsException {
        requirePlace(isWithin(k, buffer.length));
        return buffer.bytes[k];
    }

    public int poke(int k, int mask) throws IndexOutOfBoundsException, IllegalArgumentException {
        requirePlace(isWithin(k, buffer.length));
        if (mask < 1 || mask > MOST_BYTE) {
            throw new IllegalArgumentException("no mask");
        }
        buffer.bytes[k] ^= mask;
        return buffer.bytes[k];
    }

    public int open() {
        if (!TileOpener.isSumRight(buffer)) {
            return 0;
        }
        if (!TileOpener.openTile(buffer, workTile)) {
            return NONE;
        }
        Tile former = latestTile;
        latestTile = workTile;
        workTile = former;
        return latestTile.sampleCount();
    }

    public int opened(int k) throws IndexOutOfBoundsException {
        requirePlace(isWithin(k, latestTile.sampleCount()));
        return latestTile.samples[k];
    }

    public boolean restore(int i, int j) throws IndexOutOfBoundsException, IllegalStateException {
        requirePlace(pyramid.hasTile(0, i, j));
        if (latestTile.sampleCount() == 0) {
            throw new IllegalStateException("no tile was opened");
        }
        boolean fits = latestTile.columns == pyramid.tileColumns(0, i)
                && latestTile.rows == pyramid.tileRows(0, j);
        if (fits) {
            pyramid.layTile(i, j, latestTile);
        }
        return fits;
    }

    public int strip(int x, int y, int v) throws IndexOutOfBoundsException, IllegalArgumentException {
        return replaceSample(overlay, x, y, v);
    }

    public int seam(int overlap) throws IllegalArgumentException {
        if (overlap < 1 || overlap > STRIP_COLUMNS || overlap > picture.columns) {
            throw new IllegalArgumentException("no such overlap");
        }
        return seamFinder.findLeast(overlap);
    }

    public int seamAt(int row) throws IndexOutOfBoundsException {
        requirePlace(seamFinder.found && isWithin(row, picture.rows));
        return seamFinder.path[row];
    }

    private static int replaceSample(Picture where, int x, int y, int v) {
        requirePlace(isWithin(x, where.columns) && isWithin(y, where.rows));
        requireSample(v);
        int former = where.sampleAt(x, y);
        where.setSample(x, y, v);
        return former;
    }

    private static void requirePlace(boolean exists) {
        if (!exists) {
            throw new IndexOutOfBoundsException("no such place");
        }
    }

    private static void requireSample(int v) {
        if (!isSample(v)) {
            throw new IllegalArgumentException("no sample");
        }
    }

    private static boolean isSample(int v) {
        return v >= 0 && v <= MOST_SAMPLE;
    }

    private static boolean isWithin(int index, int count) {
        return index >= 0 && index < count;
    }

    /**
     * Euclid needs below 32 steps for numbers of a picture's size, so the bound is never met. At least 1,
     * so that whoever asks can divide by it.
     */
    private static int greatestDivisor(int a, int b) {
        int divisor = a;
        int rest = b;
        for (int step = 0; step < 64 && rest != 0; step++) {
            int next = divisor % rest;
            divisor = rest;
            rest = next;
        }
        return Math.max(1, divisor);
    }

    private static int bitsNeeded(int number) {
        int bits = 0;
        while (bits < MOST_BITS && (number >> bits) != 0) {
            bits++;
        }
        return bits;
    }

    /** Samples row by row; whoever asks has tested that the place exists. */
    private static final class Picture {
        final int columns;
        final int rows;
        final int[] samples;

        Picture(int columns, int rows) {
            this.columns = columns;
            this.rows = rows;
            this.samples = new int[columns * rows];
        }

        int sampleAt(int x, int y) {
            return samples[y * columns + x];
        }

        void setSample(int x, int y, int v) {
            samples[y * columns + x] = v;
        }

        void fillPart(int x, int y, int w, int h, int v) {
            for (int row = y; row < y + h; row++) {
                for (int column = x; column < x + w; column++) {
                    setSample(column, row, v);
                }
            }
        }

        int sumOfPart(int x, int y, int w, int h) {
            int sum = 0;
            for (int row = y; row < y + h; row++) {
                for (int column = x; column < x + w; column++) {
                    sum += sampleAt(column, row);
                }
            }
            return sum;
        }
    }

    /** The levels over a picture; their samples are worked out from the picture when asked for. */
    private static final class Pyramid {
        final Picture base;
        final int count;

        Pyramid(Picture base) {
            this.base = base;
            int longest = Math.max(base.columns, base.rows);
            int levels = 1;
            for (int side = 1; side < longest; side *= 2) {
                levels++;
            }
            this.count = levels;
        }

        boolean hasLevel(int level) {
            return isWithin(level, count);
        }

        boolean hasPlace(int level, int x, int y) {
            return hasLevel(level) && isWithin(x, columnsOf(level)) && isWithin(y, rowsOf(level));
        }

        boolean hasPart(int level, int x, int y, int w, int h) {
            // x + w could wrap round, what is left behind x cannot.
            return hasPlace(level, x, y) && w >= 1 && h >= 1
                    && w <= columnsOf(level) - x && h <= rowsOf(level) - y;
        }

        boolean hasTile(int level, int i, int j) {
            return hasLevel(level) && isWithin(i, tilesAlong(columnsOf(level)))
                    && isWithin(j, tilesAlong(rowsOf(level)));
        }

        int columnsOf(int level) {
            return halvedUp(base.columns, level);
        }

        int rowsOf(int level) {
            return halvedUp(base.rows, level);
        }

        int tileColumns(int level, int i) {
            return Math.min(TILE_SIDE, columnsOf(level) - TILE_SIDE * i);
        }

        int tileRows(int level, int j) {
            return Math.min(TILE_SIDE, rowsOf(level) - TILE_SIDE * j);
        }

        /** At least 1 lies under each place there is; never less, so that it can divide. */
        int countUnder(int level, int x, int y) {
            return Math.max(1, reach(level, x, base.columns) * reach(level, y, base.rows));
        }

        int totalUnder(int level, int x, int y) {
            return base.sumOfPart(x << level, y << level,
                    reach(level, x, base.columns), reach(level, y, base.rows));
        }

        int roundedMean(int level, int x, int y) {
            int under = countUnder(level, x, y);
            return (2 * totalUnder(level, x, y) + under) / (2 * under);
        }

        int tilesOver(int x, int y, int w, int h) {
            int tiles = 0;
            for (int level = 0; level < count; level++) {
                tiles += tilesOverSide(level, x, w) * tilesOverSide(level, y, h);
            }
            return tiles;
        }

        void cutTile(int level, int i, int j, Tile into) {
            into.setSize(tileColumns(level, i), tileRows(level, j));
            for (int row = 0; row < into.rows; row++) {
                for (int column = 0; column < into.columns; column++) {
                    into.setSample(column, row,
                            roundedMean(level, TILE_SIDE * i + column, TILE_SIDE * j + row));
                }
            }
        }

        void layTile(int i, int j, Tile tile) {
            for (int row = 0; row < tile.rows; row++) {
                for (int column = 0; column < tile.columns; column++) {
                    base.setSample(TILE_SIDE * i + column, TILE_SIDE * j + row,
                            tile.sampleAt(column, row));
                }
            }
        }

        private static int halvedUp(int side, int level) {
            return (side + (1 << level) - 1) >> level;
        }

        private static int tilesAlong(int side) {
            return (side + TILE_SIDE - 1) / TILE_SIDE;
        }

        private static int reach(int level, int place, int side) {
            return Math.min(1 << level, side - (place << level));
        }

        private static int tilesOverSide(int level, int start, int length) {
            int first = (start >> level) / TILE_SIDE;
            int last = ((start + length - 1) >> level) / TILE_SIDE;
            return last - first + 1;
        }
    }

    /** Up to 8 by 8 samples, row by row; one without a size stands for no tile. */
    private static final class Tile {
        final int[] samples = new int[TILE_SIDE * TILE_SIDE];
        int columns;
        int rows;

        void setSize(int newColumns, int newRows) {
            columns = newColumns;
            rows = newRows;
        }

        int sampleCount() {
            return columns * rows;
        }

        int sampleAt(int column, int row) {
            return samples[row * columns + column];
        }

        void setSample(int column, int row, int v) {
            samples[row * columns + column] = v;
        }

        /** The sample that the one at this place is told by its difference to. */
        int formerSample(int column, int row) {
            if (column > 0) {
                return sampleAt(column - 1, row);
            }
            return row > 0 ? sampleAt(0, row - 1) : 0;
        }
    }

    /** The buffer's bytes, of which the first so many count. */
    private static final class ByteRow {
        final int[] bytes = new int[MOST_BYTES];
        int length;

        boolean isFull() {
            return length >= MOST_BYTES;
        }

        void append(int b) {
            if (!isFull()) {
                bytes[length] = b;
                length++;
            }
        }

        int sumOfFirst(int end) {
            int sum = 0;
            for (int k = 0; k < end; k++) {
                sum = (SUM_FACTOR * sum + bytes[k] + 1) % SUM_MODULUS;
            }
            return sum;
        }

        /** The number in so many bits from a bit on; whoever asks has tested that they exist. */
        int bitsFrom(int start, int bits) {
            int number = 0;
            for (int n = 0; n < bits; n++) {
                int place = start + n;
                number |= ((bytes[place / 8] >> (place % 8)) & 1) << n;
            }
            return number;
        }
    }

    /** Turns a tile into bytes. */
    private static final class TilePacker {
        static void packTile(Tile tile, ByteRow into) {
            into.length = 0;
            into.append(tile.columns);
            into.append(tile.rows);
            for (int row = 0; row < tile.rows; row++) {
                packRow(tile, row, into);
            }
            int sum = into.sumOfFirst(into.length);
            into.append(sum & MOST_BYTE);
            into.append(sum >> 8);
        }

        private static void packRow(Tile tile, int row, ByteRow into) {
            int bits = bitsNeeded(greatestNumber(tile, row));
            into.append(bits);
            int held = 0;
            int heldBits = 0;
            for (int column = 0; column < tile.columns; column++) {
                held |= numberAt(tile, column, row) << heldBits;
                for (heldBits += bits; heldBits >= 8; heldBits -= 8) {
                    into.append(held & MOST_BYTE);
                    held >>= 8;
                }
            }
            if (heldBits > 0) {
                into.append(held);
            }
        }

        private static int greatestNumber(Tile tile, int row) {
            int greatest = 0;
            for (int column = 0; column < tile.columns; column++) {
                greatest = Math.max(greatest, numberAt(tile, column, row));
            }
            return greatest;
        }

        private static int numberAt(Tile tile, int column, int row) {
            int difference = tile.sampleAt(column, row) - tile.formerSample(column, row);
            return difference >= 0 ? 2 * difference : -2 * difference - 1;
        }
    }

    /** Turns bytes back into a tile, if they are one. */
    private static final class TileOpener {
        static boolean isSumRight(ByteRow from) {
            int end = from.length - SUM_BYTES;
            return end >= 0
                    && from.sumOfFirst(end) == from.bytes[end] + (from.bytes[end + 1] << 8);
        }

        /** Whether the bytes before the sum are a tile; if not, what is in the tile is of no use. */
        static boolean openTile(ByteRow from, Tile into) {
            int end = from.length - SUM_BYTES;
            if (end < 2 || !isSide(from.bytes[0]) || !isSide(from.bytes[1])) {
                return false;
            }
            into.setSize(from.bytes[0], from.bytes[1]);
            int start = 2;
            for (int row = 0; row < into.rows && start != NONE; row++) {
                start = openRow(from, start, end, into, row);
            }
            return start == end;
        }

        private static boolean isSide(int b) {
            return b >= 1 && b <= TILE_SIDE;
        }

        /** Where the next row starts, or NONE if this is no row. */
        private static int openRow(ByteRow from, int start, int end, Tile into, int row) {
            if (start >= end || from.bytes[start] > MOST_BITS) {
                return NONE;
            }
            int bits = from.bytes[start];
            int usedBits = bits * into.columns;
            int next = start + 1 + (usedBits + 7) / 8;
            if (next > end) {
                return NONE;
            }
            int place = 8 * (start + 1);
            int greatest = 0;
            for (int column = 0; column < into.columns; column++) {
                int number = from.bitsFrom(place, bits);
                int sample = into.formerSample(column, row) + differenceOf(number);
                if (!isSample(sample)) {
                    return NONE;
                }
                into.setSample(column, row, sample);
                greatest = Math.max(greatest, number);
                place += bits;
            }
            boolean restIsZero = from.bitsFrom(place, 8 * next - place) == 0;
            return restIsZero && bitsNeeded(greatest) == bits ? next : NONE;
        }

        private static int differenceOf(int number) {
            return number % 2 == 0 ? number / 2 : -(number / 2) - 1;
        }
    }

    /** The least seam between a picture's end and the strip over it. */
    private static final class SeamFinder {
        final Picture under;
        final Picture over;
        /** The least cost of a seam from the first row to a place, row by row. */
        final int[] leastCosts;
        /** The latest seam's column in each row. */
        final int[] path;
        boolean found;

        SeamFinder(Picture under, Picture over) {
            this.under = under;
            this.over = over;
            this.leastCosts = new int[STRIP_COLUMNS * under.rows];
            this.path = new int[under.rows];
        }

        int findLeast(int overlap) {
            for (int row = 0; row < under.rows; row++) {
                addUpRow(row, overlap);
            }
            int last = under.rows - 1;
            path[last] = cheapest(last, 0, overlap - 1);
            for (int row = last - 1; row >= 0; row--) {
                path[row] = cheapestNear(row, path[row + 1], overlap);
            }
            found = true;
            return leastCosts[last * STRIP_COLUMNS + path[last]];
        }

        private void addUpRow(int row, int overlap) {
            for (int column = 0; column < overlap; column++) {
                int difference = over.sampleAt(column, row)
                        - under.sampleAt(under.columns - overlap + column, row);
                int above = 0;
                if (row > 0) {
                    int best = cheapestNear(row - 1, column, overlap);
                    above = leastCosts[(row - 1) * STRIP_COLUMNS + best];
                }
                leastCosts[row * STRIP_COLUMNS + column] = above + difference * difference;
            }
        }

        private int cheapestNear(int row, int column, int overlap) {
            return cheapest(row, Math.max(0, column - 1), Math.min(overlap - 1, column + 1));
        }

        /** The lowest of the columns with the least cost, as the document's choice of a seam asks. */
        private int cheapest(int row, int first, int last) {
            int best = first;
            for (int column = first + 1; column <= last; column++) {
                if (leastCosts[row * STRIP_COLUMNS + column] < leastCosts[row * STRIP_COLUMNS + best]) {
                    best = column;
                }
            }
            return best;
        }
    }
}
