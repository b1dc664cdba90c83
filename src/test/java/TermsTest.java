import java.util.ArrayList;
import java.util.Arrays;
import java.util.List;

/** The document's "Terms", sentence by sentence, at their edges. */
public final class TermsTest {
    private static final int MIN = Check.MIN;
    private static final int MAX = Check.MAX;

    public static void main(String[] args) {
        sidesOutsideCountAsTheLeastOrGreatest();
        samplesAreZeroAtFirst();
        samplesFromLeastToGreatest();
        levelsHaveHalfRoundedUp();
        levelsEndWithOneSample();
        samplesUnderAtTheEnds();
        meansAreOfThePicture();
        meansAreRoundedHalvesUp();
        tilesAreLessAtTheEnds();
        tilesStartAtEveryEighth();
        bitsAreJustAsManyAsNeeded();
        bitsOfARowAreItsGreatestNumbers();
        differencesAreToTheLeftAndAbove();
        bitsFillBytesAndTheRestIsZero();
        sumsByHand();
        sumsAreTakenModulo();
        bufferOfAtMost256Bytes();
        stripIsAsHighAsThePicture();
        the512thCallIsPromised();
        Check.end("TermsTest");
    }

    /** "what the constructor is given below or above that counts as the least or the greatest" */
    private static void sidesOutsideCountAsTheLeastOrGreatest() {
        int[][] givenAndDue = {{MIN, 1}, {MIN + 1, 1}, {-40, 1}, {-1, 1}, {0, 1}, {1, 1}, {2, 2}, {39, 39},
            {40, 40}, {41, 40}, {64, 40}, {256, 40}, {MAX - 1, 40}, {MAX, 40}};
        for (int[] width : givenAndDue) {
            for (int[] height : givenAndDue) {
                Counted p = new Counted(width[0], height[0]);
                String what = "new " + width[0] + " " + height[0];
                Check.due(what + " width", p.size(0, 0), width[1]);
                Check.due(what + " height", p.size(0, 1), height[1]);
                Check.answers("0", p, "put", width[1] - 1, height[1] - 1, 1);
                Check.answers(Check.NO_PLACE, p, "put", width[1], height[1] - 1, 1);
                Check.answers(Check.NO_PLACE, p, "put", width[1] - 1, height[1], 1);
            }
        }
    }

    /** "with SAMPLES 0 .. 255, all 0 at first" */
    private static void samplesAreZeroAtFirst() {
        for (int y = 0; y < 40; y++) {
            Counted p = new Counted(40, 40);
            for (int x = 0; x < 40; x++) {
                Check.due("first " + x + " " + y, p.put(x, y, 255), 0);
            }
        }
        Counted p = new Counted(40, 40);
        Check.due("their sum", p.zoom(0, 0, 0, 40, 40), 0);
    }

    /** "SAMPLES 0 .. 255": each of them can be put, and is what it was then. */
    private static void samplesFromLeastToGreatest() {
        Counted p = new Counted(1, 1);
        for (int v = 1; v < 256; v++) {
            Check.due("before " + v, p.put(0, 0, v), v - 1);
        }
        Check.due("the greatest", p.at(0, 0, 0), 255);
        Check.answers(Check.NO_ARGUMENT, p, "put", 0, 0, 256);
        Check.answers(Check.NO_ARGUMENT, p, "put", 0, 0, -1);
        Check.due("still", p.put(0, 0, 0), 255);
    }

    /** "each next LEVEL has half as many columns and rows, rounded up" */
    private static void levelsHaveHalfRoundedUp() {
        for (int width = 1; width <= 40; width++) {
            for (int height = 1; height <= 40; height++) {
                Counted p = new Counted(width, height);
                int columns = width;
                int rows = height;
                for (int level = 0; level < p.levels(); level++) {
                    String what = width + " by " + height + " level " + level;
                    Check.due(what + " columns", p.size(level, 0), columns);
                    Check.due(what + " rows", p.size(level, 1), rows);
                    columns = columns % 2 == 0 ? columns / 2 : columns / 2 + 1;
                    rows = rows % 2 == 0 ? rows / 2 : rows / 2 + 1;
                }
            }
        }
    }

    /** "as far as one with one sample": the last one has one, and no level before it. */
    private static void levelsEndWithOneSample() {
        int[][] sideAndLevels = {{1, 1}, {2, 2}, {3, 3}, {4, 3}, {5, 4}, {8, 4}, {9, 5}, {16, 5}, {17, 6},
            {32, 6}, {33, 7}, {39, 7}, {40, 7}};
        for (int[] row : sideAndLevels) {
            for (int other = 1; other <= row[0]; other++) {
                levelsEnd(row[0], other, row[1]);
                levelsEnd(other, row[0], row[1]);
            }
        }
    }

    private static void levelsEnd(int width, int height, int due) {
        Counted p = new Counted(width, height);
        String what = "levels of " + width + " by " + height;
        Check.due(what, p.levels(), due);
        Check.due(what + " end", p.size(due - 1, 0) * p.size(due - 1, 1), 1);
        Check.answers(Check.NO_PLACE, p, "size", due, 0);
        Check.answers(Check.NO_PLACE, p, "at", due, 0, 0);
        if (due > 1) {
            Check.due(what + " before", p.size(due - 2, 0) * p.size(due - 2, 1) > 1 ? 1 : 0, 1);
        }
    }

    /** "columns 2^level * x and on, 2^level of them or as many as there are; rows likewise" */
    private static void samplesUnderAtTheEnds() {
        for (int side = 1; side <= 40; side++) {
            int levels = new Counted(side, 1).levels();
            for (int level = 0; level < levels; level++) {
                int step = 1 << level;
                int last = (side - 1) / step;
                int first = last * step;
                under(side, level, last, first, side - first);
                under(side, level, last, side - 1, side - first);
                if (last > 0) {
                    under(side, level, last - 1, first - step, step);
                    under(side, level, last - 1, first - 1, step);
                }
            }
        }
    }

    /** A sample 1 among 0s: the mean over it is 1 of as many as lie under there, and 0 elsewhere. */
    private static void under(int side, int level, int sample, int place, int count) {
        for (int axis = 0; axis < 2; axis++) {
            Counted p = axis == 0 ? new Counted(side, 1) : new Counted(1, side);
            p.put(axis == 0 ? place : 0, axis == 0 ? 0 : place, 1);
            for (int k = 0; k < p.size(level, axis); k++) {
                int x = axis == 0 ? k : 0;
                int y = axis == 0 ? 0 : k;
                String what = "side " + side + " level " + level + " place " + place + " sample " + k;
                Check.due(what + " above", p.mean(level, x, y, 0), k == sample ? 1 : 0);
                Check.due(what + " below", p.mean(level, x, y, 1), k == sample ? count : 1);
            }
        }
    }

    /** "stands for all samples of the picture that lie under it": no mean of means, no rounded ones. */
    private static void meansAreOfThePicture() {
        Counted rounded = new Counted(4, 4);
        rounded.change(0, 0, 2, 1, 1);
        rounded.change(2, 2, 2, 1, 1);
        Check.due("1 / 2 twice is rounded to 1", rounded.at(1, 0, 0) + rounded.at(1, 1, 1), 2);
        Check.due("and 4 / 16 to 0", rounded.at(2, 0, 0), 0);
        Counted weighted = new Counted(3, 3);
        weighted.put(2, 2, 255);
        Check.due("the end's own mean", weighted.at(1, 1, 1), 255);
        Check.due("counts one of nine, not of four", weighted.at(2, 0, 0), 28);
        Check.due("exactly above", weighted.mean(2, 0, 0, 0), 85);
        Check.due("exactly below", weighted.mean(2, 0, 0, 1), 3);
    }

    /** "rounded to the nearest whole number, halves up" */
    private static void meansAreRoundedHalvesUp() {
        for (int[] side : new int[][] {{2, 1}, {1, 2}, {2, 2}, {3, 1}, {3, 2}, {5, 1}, {3, 3}, {7, 5}, {40, 40},
            {40, 39}, {39, 39}}) {
            int count = side[0] * side[1];
            for (int whole : new int[] {0, 1, 127, 128, 253, 254}) {
                for (int more : new int[] {0, 1, count / 2 - 1, count / 2, count / 2 + 1, count - 1}) {
                    roundedMean(side[0], side[1], whole, Math.max(0, more));
                }
            }
            roundedMean(side[0], side[1], 255, 0);
        }
    }

    /** All samples are the same, but for the first so many, which have one more. */
    private static void roundedMean(int width, int height, int whole, int more) {
        Counted p = new Counted(width, height);
        p.change(0, 0, width, height, whole);
        for (int y = 0; y < more / width; y++) {
            p.change(0, y, width, 1, whole + 1);
        }
        if (more % width > 0) {
            p.change(0, more / width, more % width, 1, whole + 1);
        }
        String what = width + " by " + height + " of " + whole + " and " + more + " of one more";
        boolean up = 2 * more >= width * height;
        Check.due(what, p.at(p.levels() - 1, 0, 0), up ? whole + 1 : whole);
    }

    /** "TILES of a level are 8 by 8 of its samples (less at its ends)" */
    private static void tilesAreLessAtTheEnds() {
        for (int side = 1; side <= 40; side++) {
            for (int level = 0; level < new Counted(side, side).levels(); level++) {
                Counted p = new Counted(side, side);
                int left = p.size(level, 0);
                int tile = 0;
                for (; left > 0; left -= 8) {
                    p.pack(level, tile, 0);
                    Check.due("columns of " + tile + " at " + level, p.byteAt(0), left > 8 ? 8 : left);
                    p.pack(level, 0, tile);
                    Check.due("rows of " + tile + " at " + level, p.byteAt(1), left > 8 ? 8 : left);
                    tile++;
                }
                Check.answers(Check.NO_PLACE, p, "pack", level, tile, 0);
                Check.answers(Check.NO_PLACE, p, "pack", level, 0, tile);
            }
        }
    }

    /** "tile i, j from columns 8 * i and rows 8 * j on" */
    private static void tilesStartAtEveryEighth() {
        for (int level = 0; level < 3; level++) {
            int size = (40 >> level);
            for (int i = 0; 8 * i < size; i++) {
                for (int j = 0; 8 * j < size; j++) {
                    tileStarts(level, i, j, Math.min(8, size - 8 * i), Math.min(8, size - 8 * j));
                }
            }
        }
    }

    private static void tileStarts(int level, int i, int j, int columns, int rows) {
        Counted p = new Counted(40, 40);
        int step = 1 << level;
        p.change(8 * i * step, 8 * j * step, step, step, 11);
        p.change((8 * i + columns - 1) * step, (8 * j + rows - 1) * step, step, step, 22);
        p.pack(level, i, j);
        Check.due("samples", p.open(), columns * rows);
        for (int k = 0; k < columns * rows; k++) {
            int due = k == 0 ? 11 : k == columns * rows - 1 ? 22 : 0;
            Check.due("tile " + i + " " + j + " of " + level + " sample " + k, p.opened(k), due);
        }
    }

    /** "the number of BITS, 0 .. 9", "just as many as its greatest number needs (0 for 0)" */
    private static void bitsAreJustAsManyAsNeeded() {
        for (int number = 0; number <= 510; number++) {
            int first = number % 2 == 0 ? 0 : 255;
            int second = number % 2 == 0 ? number / 2 : 255 - (number + 1) / 2;
            Counted p = new Counted(2, 2);
            p.change(0, 0, 2, 2, first);
            p.put(1, 1, second);
            int length = p.pack(0, 0, 0);
            int bits = Integer.toBinaryString(number).length();
            bits = number == 0 ? 0 : bits;
            // The row above has two samples alike: 0 bits, or 9 for 510.
            int start = first == 0 ? 3 : 6;
            Check.due("bits for " + number, p.byteAt(start), bits);
            Check.due("length for " + number, length, start + 1 + (2 * bits + 7) / 8 + 2);
            Check.due("opens " + number, p.open(), 4);
            Check.due("to what it was", p.opened(3), second);
        }
    }

    /** The greatest number counts, wherever in the row it stands; the rows' bits are each row's own. */
    private static void bitsOfARowAreItsGreatestNumbers() {
        for (int column = 0; column < 8; column++) {
            Counted p = new Counted(8, 3);
            p.change(column, 1, 8 - column, 1, 100);
            p.change(0, 2, 8, 1, column == 0 ? 100 : 0);
            p.pack(0, 0, 0);
            Check.due("bits before", p.byteAt(2), 0);
            Check.due("bits of 200 at " + column, p.byteAt(3), 8);
            Check.due("200 at " + column, p.byteAt(4 + column), 200);
            Check.due("bits after", p.byteAt(12), 0);
            Check.due("samples", p.open(), 24);
        }
    }

    /** "to the one to the left (of a row's first one: to the first one of the row above; ... to 0)" */
    private static void differencesAreToTheLeftAndAbove() {
        Counted p = new Counted(2, 3);
        int[] samples = {7, 5, 7, 8, 4, 4};
        for (int k = 0; k < 6; k++) {
            p.put(k % 2, k / 2, samples[k]);
        }
        // 7 and -2: 14 and 3 in 4 bits; 0 and 1: 0 and 2 in 2 bits; -3 and 0: 5 and 0 in 3 bits.
        buffer("differences", p.pack(0, 0, 0), p, 2, 3, 4, 14 + 16 * 3, 2, 4 * 2, 3, 5);
    }

    private static void buffer(String what, int length, Counted p, int... body) {
        int sum = Check.sumOf(body);
        Check.due(what + " length", length, body.length + 2);
        for (int k = 0; k < body.length; k++) {
            Check.due(what + " byte " + k, p.byteAt(k), body[k]);
        }
        Check.due(what + " sum's low byte", p.byteAt(body.length), sum % 256);
        Check.due(what + " sum's high byte", p.byteAt(body.length + 1), sum / 256);
        Check.answers(Check.NO_PLACE, p, "byteAt", body.length + 2);
    }

    /** "the lowest first, filling bytes from the lowest bit on, the rest of the last byte 0" */
    private static void bitsFillBytesAndTheRestIsZero() {
        for (int columns = 1; columns <= 8; columns++) {
            for (int bits = 0; bits <= 9; bits++) {
                filledRow(columns, bits);
            }
        }
    }

    /** In the lower of two rows each number is as great as so many bits can tell, or nearly so. */
    private static void filledRow(int columns, int bits) {
        int upper = bits == 1 ? 8 : 0;
        int high = bits < 2 ? 0 : bits == 9 ? 255 : (1 << (bits - 1)) - 1;
        Counted p = new Counted(columns, 2);
        int[] upperNumbers = new int[columns];
        int[] lowerNumbers = new int[columns];
        upperNumbers[0] = 2 * upper;
        for (int x = 0; x < columns; x++) {
            p.put(x, 0, upper);
            p.put(x, 1, bits == 1 ? 7 - x : x % 2 == 0 ? high : 0);
            lowerNumbers[x] = bits < 2 ? bits : x % 2 == 0 ? 2 * high : 2 * high - 1;
        }
        List<Integer> body = new ArrayList<>(List.of(columns, 2));
        addRow(body, upper == 0 ? 0 : 5, upperNumbers);
        addRow(body, bits, lowerNumbers);
        int[] bytes = body.stream().mapToInt(b -> b).toArray();
        buffer(columns + " columns of " + bits + " bits", p.pack(0, 0, 0), p, bytes);
    }

    private static void addRow(List<Integer> body, int bits, int[] numbers) {
        body.add(bits);
        StringBuilder all = new StringBuilder();
        for (int number : numbers) {
            all.append(lowestFirst(number, bits));
        }
        for (int start = 0; start < all.length(); start += 8) {
            String eight = all.substring(start, Math.min(all.length(), start + 8));
            body.add(Integer.parseInt(new StringBuilder(eight).reverse().toString(), 2));
        }
    }

    private static String lowestFirst(int number, int bits) {
        StringBuilder text = new StringBuilder(Integer.toBinaryString(number)).reverse();
        while (text.length() < bits) {
            text.append('0');
        }
        return text.substring(0, bits);
    }

    /** "s = 0 at first, then for each byte s = (257 * s + byte + 1) % 65521", "the low byte first" */
    private static void sumsByHand() {
        Counted p = new Counted(1, 1);
        Check.due("1 by 1 of 0", p.pack(0, 0, 0), 5);
        // 2; 257 * 2 + 2 = 516; 257 * 516 + 1 = 132613, less 2 * 65521 is 1571 = 6 * 256 + 35.
        Check.due("its low byte", p.byteAt(3), 35);
        Check.due("its high byte", p.byteAt(4), 6);
        p.put(0, 0, 1);
        Check.due("1 by 1 of 1", p.pack(0, 0, 0), 6);
        // 516 as before; 257 * 516 + 3 is 1573; 257 * 1573 + 3 = 404264, less 6 * 65521 is 11138.
        Check.due("low byte of 11138", p.byteAt(4), 130);
        Check.due("high byte of 11138", p.byteAt(5), 43);
    }

    /** "% 65521": a sum of 65521 is 0, one less and one more are not; no stored sum is as great. */
    private static void sumsAreTakenModulo() {
        // 257 * 254 = 65278, and 243 more are 65521.
        sumIsRight(true, 253, 242, 0, 0);
        sumIsRight(false, 253, 242, 65521 % 256, 65521 / 256);
        sumIsRight(true, 253, 241, 65520 % 256, 65520 / 256);
        sumIsRight(false, 253, 241, 0, 0);
        sumIsRight(true, 253, 243, 1, 0);
        sumIsRight(false, 253, 243, 65522 % 256, 65522 / 256);
        sumIsRight(false, 253, 255, 65534 % 256, 65534 / 256);
        sumIsRight(true, 253, 255, 13, 0);
        sumIsRight(true, 0, 0);
        sumIsRight(false, 1, 0);
        sumIsRight(false, 0, 1);
        sumIsRight(false, 65521 % 256, 65521 / 256);
        sumIsRight(true, 0, 1, 0);
        sumIsRight(true, 255, 0, 1);
        sumIsRight(false, 255, 1, 0);
    }

    /** None of these rows of bytes is a tile. */
    private static void sumIsRight(boolean right, int... bytes) {
        Counted p = new Counted(1, 1);
        Check.loadAll(p, bytes);
        Check.due("open " + Arrays.toString(bytes), p.open(), right ? TilePyramid.NONE : 0);
    }

    /** "THE BUFFER is a row of at most 256 bytes." */
    private static void bufferOfAtMost256Bytes() {
        Counted p = new Counted(1, 1);
        for (int k = 1; k <= 256; k++) {
            Check.due("bytes", p.load(k % 256), k);
        }
        Check.answers(Check.NO_STATE, p, "load", 0);
        Check.answers("255", p, "byteAt", 254);
        Check.answers("0", p, "byteAt", 255);
        Check.answers(Check.NO_PLACE, p, "byteAt", 256);
        Check.due("all of them", p.clear(), 256);
        Check.due("room again", p.load(1), 1);
    }

    /** "A STRIP is a picture of eight columns, as high as the picture, all 0 at first." */
    private static void stripIsAsHighAsThePicture() {
        for (int[] side : new int[][] {{1, 1}, {40, 1}, {1, 40}, {40, 40}, {5, 8}, {9, 7}, {0, 0}, {41, 41}}) {
            Counted p = new Counted(side[0], side[1]);
            int rows = Math.max(1, Math.min(40, side[1]));
            for (int k = 0; k < 8 * rows; k++) {
                Check.due("strip " + k, p.strip(k % 8, k / 8, 255), 0);
            }
            Check.answers(Check.NO_PLACE, p, "strip", 8, 0, 0);
            Check.answers(Check.NO_PLACE, p, "strip", 0, rows, 0);
            Check.due("the picture is another", p.zoom(0, 0, 0, p.size(0, 0), rows), 0);
            Check.due("the end of the strip", p.strip(7, rows - 1, 0), 255);
        }
    }

    /** "An object is used for at most 512 calls": the 512th answers as the first. */
    private static void the512thCallIsPromised() {
        Counted p = new Counted(2, 2);
        for (int k = 1; k <= 511; k++) {
            Check.due("call " + k, p.put(k % 2, k / 2 % 2, k % 256), k <= 4 ? 0 : (k - 4) % 256);
        }
        Check.due("call 512", p.zoom(0, 0, 0, 2, 2), 252 + 253 + 254 + 255);
    }
}
