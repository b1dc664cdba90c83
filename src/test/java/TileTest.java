import java.util.Arrays;

/** Promises 10 to 17: pack, load, clear, byteAt, poke, open, opened, restore. */
public final class TileTest {
    public static void main(String[] args) {
        packBytes();
        packOfLevels();
        packBecomesTheBuffer();
        packLeavesTheRest();
        load();
        clear();
        byteAt();
        poke();
        pokeEveryMask();
        openAnswersHowManySamples();
        openOfLessThanTwoBytes();
        openOfAWrongSum();
        openOfEachAlteredBit();
        openLooksAtTheSumFirst();
        openColumnsAndRows();
        openTooManyBits();
        openMoreBitsThanNeeded();
        openARest();
        openNoSample();
        openBytesMissing();
        openBytesLeftOver();
        openLeavesTheBuffer();
        openedIsRowByRow();
        openedStays();
        restore();
        restoreAtTheEnds();
        restoreAgain();
        restoreOfAnotherPicturesTile();
        Check.end("TileTest");
    }

    private static void buffer(String what, Counted p, int... due) {
        for (int k = 0; k < due.length; k++) {
            Check.due(what + " byte " + k, p.byteAt(k), due[k]);
        }
        Check.answers(Check.NO_PLACE, p, "byteAt", due.length);
    }

    /** Promise 10: "A tile, packed, becomes the buffer: how many bytes." */
    private static void packBytes() {
        Counted p = new Counted(1, 1);
        Check.due("pack 0", p.pack(0, 0, 0), 5);
        buffer("pack 0", p, 1, 1, 0, 35, 6);
        p.put(0, 0, 255);
        Check.due("pack 255", p.pack(0, 0, 0), 7);
        Counted q = new Counted(3, 3);
        q.change(0, 0, 3, 3, 255);
        q.put(1, 1, 0);
        Check.due("pack with both greatest", q.pack(0, 0, 0), 2 + 5 + 5 + 1 + 2);
        int[] due = {3, 3, 9, 510 & 255, 1, 0, 0, 9, 0, 509 << 1 & 255, 509 >> 7 | 510 << 2 & 255,
            510 >> 6, 0};
        for (int k = 0; k < due.length; k++) {
            Check.due("both greatest byte " + k, q.byteAt(k), due[k]);
        }
        Counted flat = new Counted(8, 8);
        Check.due("the shortest of 8 by 8", flat.pack(0, 0, 0), 2 + 8 + 2);
        Check.due("the longest", longest().pack(0, 0, 0), 2 + 8 * 10 + 2);
    }

    /** 8 by 8, of which each row needs 9 bits. */
    private static Counted longest() {
        Counted p = new Counted(8, 8);
        for (int x = 0; x < 8; x += 2) {
            p.change(x, 0, 1, 8, 255);
        }
        return p;
    }

    private static void packOfLevels() {
        Counted p = new Counted(19, 10);
        p.change(16, 8, 3, 2, 4);
        Check.due("end tile", p.pack(0, 2, 1), 2 + 3 + 1 + 2);
        Check.due("its columns", p.byteAt(0), 3);
        Check.due("its rows", p.byteAt(1), 2);
        Check.due("bits for 8", p.byteAt(2), 4);
        Check.due("first difference", p.byteAt(3), 8);
        Check.due("no bits", p.byteAt(5), 0);
        Check.due("end tile of level 1", p.pack(1, 1, 0), 2 + 4 + 2 + 2);
        Check.due("its columns, 1", p.byteAt(0), 2);
        Check.due("its rows, 1", p.byteAt(1), 5);
        Check.due("last row's bits", p.byteAt(6), 4);
        Check.due("last row", p.byteAt(7), 8);
        Check.due("the top", p.pack(5, 0, 0), 5);
        Check.due("its columns, 5", p.byteAt(0), 1);
        Check.due("its rows, 5", p.byteAt(1), 1);
    }

    /** What the buffer was is gone, be it empty, longer or full. */
    private static void packBecomesTheBuffer() {
        Counted p = Made.full();
        Check.due("over a full buffer", p.pack(1, 0, 0), p.clear());
        Counted q = longest();
        q.pack(0, 0, 0);
        Check.due("over a longer one", q.pack(3, 0, 0), 7);
        Check.answers(Check.NO_PLACE, q, "byteAt", 7);
        Check.due("a byte behind it", q.load(9), 8);
        Check.due("as loaded", q.byteAt(7), 9);
        Check.due("as long", q.clear(), 8);
    }

    private static void packLeavesTheRest() {
        Counted p = Made.used();
        p.pack(0, 0, 0);
        for (int k = 0; k < 6; k++) {
            Check.due("opened before " + k, p.opened(k), 10 * k + 10);
        }
        Check.due("the seam before", p.seamAt(1), 2);
        Check.due("the picture", p.at(0, 0, 0), 100);
        Counted q = new Counted(1, 1);
        q.pack(0, 0, 0);
        Check.answers(Check.NO_STATE, q, "restore", 0, 0);
        Check.answers(Check.NO_PLACE, q, "opened", 0);
    }

    /** Promise 11: "A byte behind the buffer: how many it has." */
    private static void load() {
        Counted p = new Counted(2, 2);
        for (int k = 0; k < 256; k++) {
            Check.due("load " + k, p.load(255 - k), k + 1);
        }
        Check.answers(Check.NO_STATE, p, "load", 0);
        for (int k = 0; k < 250; k++) {
            Check.due("byte " + k, p.byteAt(k), 255 - k);
        }
        Counted q = new Counted(2, 2);
        q.pack(0, 0, 0);
        Check.due("behind a packed tile", q.load(1), 7);
        Check.due("it is the last", q.byteAt(6), 1);
        Check.due("the first is the tile's", q.byteAt(0), 2);
    }

    /** Promise 12: "The buffer is empty: how many bytes it had." */
    private static void clear() {
        Counted p = Made.full();
        Check.due("clear full", p.clear(), 256);
        Check.due("clear empty", p.clear(), 0);
        Check.answers(Check.NO_PLACE, p, "byteAt", 0);
        Check.answers(Check.NO_PLACE, p, "poke", 0, 1);
        Check.due("load after it", p.load(77), 1);
        Check.due("loaded after it", p.byteAt(0), 77);
        Check.answers(Check.NO_PLACE, p, "byteAt", 1);
        Check.due("clear one", p.clear(), 1);
        Check.due("what was opened stays", p.opened(5), 60);
        Check.due("the seam stays", p.seamAt(0), 2);
        Check.due("the picture stays", p.at(0, 2, 1), 60);
    }

    /** Promise 13: "Byte k of the buffer." */
    private static void byteAt() {
        Counted p = new Counted(2, 2);
        p.load(0);
        p.load(255);
        p.load(128);
        buffer("three", p, 0, 255, 128);
        Check.answers(Check.NO_PLACE, p, "byteAt", -1);
    }

    /** Promise 14: "Turns round the bits of a mask in byte k of the buffer: what it is then." */
    private static void poke() {
        Counted p = new Counted(2, 2);
        p.load(0x5a);
        p.load(255);
        Check.due("poke", p.poke(0, 0xff), 0xa5);
        Check.due("poked", p.byteAt(0), 0xa5);
        Check.due("poke one bit", p.poke(1, 128), 127);
        Check.due("poke it again", p.poke(1, 128), 255);
        Check.due("poke the lowest", p.poke(1, 1), 254);
        Check.due("poke all", p.poke(1, 255), 1);
        Check.due("the other stays", p.byteAt(0), 0xa5);
        Check.due("as many as before", p.clear(), 2);
    }

    private static void pokeEveryMask() {
        for (int mask = 1; mask < 256; mask++) {
            for (int b : new int[] {0, 255, 0x6c}) {
                Counted p = new Counted(1, 1);
                p.load(7);
                p.load(b);
                p.load(9);
                int due = 0;
                for (int bit = 0; bit < 8; bit++) {
                    int value = 1 << bit;
                    boolean set = b / value % 2 != mask / value % 2;
                    due += set ? value : 0;
                }
                Check.due("poke " + b + " by " + mask, p.poke(1, mask), due);
                buffer("poked " + b + " by " + mask, p, 7, due, 9);
            }
        }
    }

    /** Promise 15: "Opens the buffer as a packed tile: how many samples it has" */
    private static void openAnswersHowManySamples() {
        for (int columns = 1; columns <= 8; columns++) {
            for (int rows = 1; rows <= 8; rows++) {
                Counted p = new Counted(columns, rows);
                for (int k = 0; k < columns * rows; k++) {
                    p.put(k % columns, k / columns, 97 * k % 256);
                }
                p.pack(0, 0, 0);
                Check.due("open " + columns + " by " + rows, p.open(), columns * rows);
                for (int k = 0; k < columns * rows; k++) {
                    Check.due("opened " + k, p.opened(k), 97 * k % 256);
                }
                Check.answers(Check.NO_PLACE, p, "opened", columns * rows);
            }
        }
    }

    /** Promise 15: "0 if its sum is wrong, or it has less than two bytes" */
    private static void openOfLessThanTwoBytes() {
        opens(0);
        for (int b : new int[] {0, 1, 255}) {
            opens(0, b);
        }
        // Two bytes are the sum of none.
        opens(TilePyramid.NONE, 0, 0);
        opens(0, 1, 0);
        opens(0, 0, 1);
        opens(0, 0, 255);
        opens(0, 65521 % 256, 65521 / 256);
    }

    /** The tile that was opened before stays, and all else, where the buffer is none. */
    private static void opens(int due, int... bytes) {
        Check.Maker maker = () -> {
            Counted p = Made.used();
            Check.loadAll(p, bytes);
            return p;
        };
        Check.answers(String.valueOf(due), maker.make(), "open");
        Check.changesNothing(maker, "open");
        Counted fresh = Made.fresh();
        Check.loadAll(fresh, bytes);
        Check.due("open " + Arrays.toString(bytes), fresh.open(), due);
        Check.answers(Check.NO_PLACE, fresh, "opened", 0);
        Check.answers(Check.NO_STATE, fresh, "restore", 0, 0);
    }

    private static void openOfAWrongSum() {
        opens(0, 1, 1, 0, 34, 6);
        opens(0, 1, 1, 0, 36, 6);
        opens(0, 1, 1, 0, 35, 5);
        opens(0, 1, 1, 0, 35, 7);
        opens(0, 1, 1, 0, 6, 35);
        opens(0, 1, 1, 0, 35);
        opens(0, 1, 1, 0, 35, 6, 0);
        opens(0, 0, 1, 1, 0, 35, 6);
        opens(0, 35, 6, 1, 1, 0);
        // The same modulo 65521 is not the same.
        int more = 1571 + 65521 - 65536;
        opens(0, 1, 1, 0, more & 255, more >> 8 & 255);
        opens(0, new int[3]);
        opens(0, new int[256]);
        Counted p = new Counted(1, 1);
        Check.loadAll(p, 1, 1, 0, 35, 6);
        Check.due("the right one", p.open(), 1);
    }

    private static void openOfEachAlteredBit() {
        for (int start = 0; start < 84; start += 20) {
            Counted p = longest();
            int length = p.pack(0, 0, 0);
            for (int k = start; k < Math.min(length, start + 20); k++) {
                for (int mask = 1; mask < 256; mask *= 2) {
                    p.poke(k, mask);
                    Check.due("altered " + k + " by " + mask, p.open(), 0);
                    p.poke(k, mask);
                }
            }
            Check.due("as it was", p.open(), 64);
        }
    }

    /** "NONE if its sum is right, but it is no packed tile": with a wrong one it is 0 all the same. */
    private static void openLooksAtTheSumFirst() {
        opens(0, 9, 9, 10, 0, 0);
        opens(0, 0, 0, 0, 0);
        opens(0, 1, 2, 0, 0, 0);
    }

    /** The body is no packed tile, but its sum is right. */
    private static void noTile(int... body) {
        int sum = Check.sumOf(body);
        int[] bytes = Arrays.copyOf(body, body.length + 2);
        bytes[body.length] = sum % 256;
        bytes[body.length + 1] = sum / 256;
        opens(TilePyramid.NONE, bytes);
    }

    private static void tile(int[] body, int... samples) {
        Counted p = Made.used();
        Check.loadWithSum(p, body);
        Check.due("a tile " + Arrays.toString(body), p.open(), samples.length);
        for (int k = 0; k < samples.length; k++) {
            Check.due("sample " + k + " of " + Arrays.toString(body), p.opened(k), samples[k]);
        }
        Check.answers(Check.NO_PLACE, p, "opened", samples.length);
    }

    private static int[] of(int... bytes) {
        return bytes;
    }

    /** "columns or rows are not 1 .. 8" */
    private static void openColumnsAndRows() {
        tile(of(1, 1, 0), 0);
        tile(of(8, 1, 0), new int[8]);
        tile(of(1, 8, 0, 0, 0, 0, 0, 0, 0, 0), new int[8]);
        tile(of(8, 8, 0, 0, 0, 0, 0, 0, 0, 0), new int[64]);
        noTile(0, 1, 0);
        noTile(9, 1, 0);
        noTile(16, 1, 0);
        noTile(255, 1, 0);
        noTile(0, 0);
        noTile(1, 0);
        noTile(8, 0);
        noTile(0, 8, 0, 0, 0, 0, 0, 0, 0, 0);
        noTile(1, 9, 0, 0, 0, 0, 0, 0, 0, 0, 0);
        noTile(8, 9, 0, 0, 0, 0, 0, 0, 0, 0, 0);
        noTile(9, 9, 0, 0, 0, 0, 0, 0, 0, 0, 0);
        noTile(1, 255, 0);
        int[] rows = new int[254];
        rows[0] = 1;
        rows[1] = 252;
        noTile(rows);
    }

    /** "a row has more bits than 9": even where just as many bytes are there, with a number that fits. */
    private static void openTooManyBits() {
        tile(of(1, 1, 9, 254, 1), 255);
        tile(of(1, 1, 9, 0, 1), 128);
        noTile(1, 1, 10, 0, 2);
        noTile(1, 1, 10, 0, 1);
        noTile(1, 1, 10, 254, 1);
        noTile(1, 1, 16, 254, 1);
        noTile(1, 1, 255, 255);
        noTile(1, 2, 0, 10, 0, 2);
        noTile(1, 1, 128);
        int[] most = new int[254];
        most[0] = 8;
        most[1] = 1;
        most[2] = 251;
        noTile(most);
    }

    /** "or than its numbers need" */
    private static void openMoreBitsThanNeeded() {
        tile(of(1, 1, 4, 12), 6);
        tile(of(1, 2, 4, 12, 1, 1), 6, 5);
        noTile(1, 1, 5, 12);
        noTile(1, 1, 8, 12);
        noTile(1, 1, 9, 12, 0);
        noTile(1, 1, 9, 254, 0);
        noTile(1, 1, 1, 0);
        noTile(8, 1, 1, 0);
        noTile(8, 8, 0, 0, 0, 0, 0, 0, 0, 1, 0);
        noTile(1, 2, 0, 3, 2);
        noTile(1, 2, 3, 2, 0);
        // 2 and 1 in three bits each, where two would do.
        noTile(2, 1, 3, 2 + 8);
        tile(of(2, 1, 2, 2 + 4), 1, 0);
    }

    /** "a rest is not 0": each bit of it, in each row. */
    private static void openARest() {
        for (int bit = 4; bit < 8; bit++) {
            noTile(1, 1, 4, 12 + (1 << bit));
            noTile(1, 2, 4, 12 + (1 << bit), 0);
            noTile(1, 2, 0, 4, 12 + (1 << bit));
        }
        for (int bit = 1; bit < 8; bit++) {
            noTile(1, 1, 9, 254, 1 + (1 << bit));
        }
        // Four columns of 6 bits have no rest; three have one of 6 bits.
        tile(of(4, 1, 6, 32, 8, 130), 16, 32, 48, 64);
        tile(of(3, 1, 6, 32, 8, 2), 16, 32, 48);
        noTile(3, 1, 6, 32, 8, 2 + 4);
        noTile(3, 1, 6, 32, 8, 2 + 128);
    }

    /** "a sample is none": below 0 or above 255, on the way or at the end. */
    private static void openNoSample() {
        tile(of(1, 1, 9, 254, 1), 255);
        tile(of(2, 1, 9, 254, 251, 3), 255, 0);
        tile(of(1, 2, 9, 254, 1, 9, 253, 1), 255, 0);
        tile(of(1, 2, 0, 9, 254, 1), 0, 255);
        noTile(1, 1, 1, 1);
        noTile(1, 1, 9, 255, 1);
        noTile(1, 1, 9, 253, 1);
        noTile(2, 1, 9, 254, 5, 0);
        // 255, and then 511 for -256.
        noTile(2, 1, 9, 254, 255, 3);
        noTile(1, 2, 9, 254, 1, 2, 2);
        noTile(1, 2, 9, 254, 1, 9, 255, 1);
        noTile(1, 2, 0, 1, 1);
        noTile(1, 3, 0, 1, 1, 2, 2);
        // Above 255 and back: 255, then one more, then one less.
        noTile(3, 1, 9, 254, 5, 4);
        // The next row's first one goes from the row's first one, not from its last one.
        tile(of(2, 2, 2, 2 + 4, 1, 1), 1, 0, 0, 0);
        noTile(2, 2, 2, 2 + 4, 1, 1 + 2);
    }

    /** "bytes are missing" */
    private static void openBytesMissing() {
        noTile();
        noTile(1);
        noTile(8);
        noTile(1, 1);
        noTile(8, 8);
        noTile(1, 1, 4);
        noTile(1, 1, 9);
        noTile(1, 1, 9, 254);
        noTile(8, 1, 9, 254, 1, 0, 0, 0, 0, 0, 0);
        tile(of(8, 1, 9, 254, 1, 0, 0, 0, 0, 0, 0, 0), 255, 255, 255, 255, 255, 255, 255, 255);
        noTile(1, 2, 0);
        noTile(1, 8, 0, 0, 0, 0, 0, 0, 0);
        noTile(1, 2, 4, 12);
        noTile(1, 2, 0, 4);
    }

    /** "or left over" */
    private static void openBytesLeftOver() {
        noTile(1, 1, 0, 0);
        noTile(1, 1, 0, 1, 2);
        noTile(1, 1, 4, 12, 0);
        noTile(1, 1, 9, 254, 1, 0);
        noTile(8, 8, 0, 0, 0, 0, 0, 0, 0, 0, 0);
        int[] full = new int[254];
        full[0] = 1;
        full[1] = 1;
        noTile(full);
        int[] almostFull = Arrays.copyOf(full, 253);
        noTile(almostFull);
    }

    /** "Opens the buffer (which stays)" */
    private static void openLeavesTheBuffer() {
        Counted p = Made.packed();
        int[] before = new int[p.pack(0, 0, 0)];
        for (int k = 0; k < before.length; k++) {
            before[k] = p.byteAt(k);
        }
        Check.due("opens", p.open(), 6);
        buffer("after it was opened", p, before);
        Check.due("opens again", p.open(), 6);
        Check.due("and can be lengthened", p.load(0), before.length + 1);
        Check.due("but is none then", p.open(), 0);
        Check.due("and the picture is not changed", p.at(0, 0, 0), 100);
    }

    /** Promise 16: "Sample k of the tile that was opened latest, row by row." */
    private static void openedIsRowByRow() {
        Counted p = new Counted(3, 2);
        for (int k = 0; k < 6; k++) {
            p.put(k % 3, k / 3, k * k);
        }
        p.pack(0, 0, 0);
        p.open();
        for (int k = 0; k < 6; k++) {
            Check.due("row by row " + k, p.opened(k), k * k);
        }
        Check.answers(Check.NO_PLACE, p, "opened", 6);
        Check.answers(Check.NO_PLACE, p, "opened", -1);
    }

    private static void openedStays() {
        Counted p = new Counted(2, 1);
        p.put(0, 0, 3);
        p.put(1, 0, 8);
        p.pack(0, 0, 0);
        p.open();
        p.change(0, 0, 2, 1, 200);
        p.pack(0, 0, 0);
        Check.due("after another pack, 0", p.opened(0), 3);
        Check.due("after another pack, 1", p.opened(1), 8);
        p.poke(0, 1);
        Check.due("altered", p.open(), 0);
        Check.due("after a wrong sum", p.opened(1), 8);
        p.clear();
        Check.due("nothing to open", p.open(), 0);
        Check.due("after no bytes", p.opened(1), 8);
        Check.answers(Check.NO_PLACE, p, "opened", 2);
        p.pack(1, 0, 0);
        Check.due("the next", p.open(), 1);
        Check.due("opened of the next", p.opened(0), 200);
        Check.answers(Check.NO_PLACE, p, "opened", 1);
        Check.loadWithSum(p, 8, 8, 0, 0, 0, 0, 0, 0, 0, 0);
        Check.due("a greater one", p.open(), 64);
        Check.due("its last", p.opened(63), 0);
        Check.answers(Check.NO_PLACE, p, "opened", 64);
    }

    /** Promise 17: "The tile that was opened latest comes into the picture's tile i, j (of level 0)" */
    private static void restore() {
        Counted p = new Counted(18, 11);
        for (int k = 0; k < 18 * 11; k++) {
            p.put(k % 18, k / 18, k);
        }
        p.pack(0, 0, 0);
        p.open();
        Check.answers("true", p, "restore", 1, 0);
        for (int y = 0; y < 11; y++) {
            for (int x = 0; x < 18; x++) {
                boolean inside = x >= 8 && x < 16 && y < 8;
                Check.due("restored " + x + " " + y, p.at(0, x, y), 18 * y + (inside ? x - 8 : x));
            }
        }
        Check.due("above it", p.at(1, 4, 0), 10);
    }

    private static void restoreAtTheEnds() {
        Counted p = new Counted(18, 11);
        p.change(0, 0, 18, 11, 99);
        Check.loadWithSum(p, 2, 3, 4, 0x8a, 0, 2, 0x0d);
        Check.due("2 by 3", p.open(), 6);
        int[] samples = {5, 9, 5, 5, 4, 2};
        for (int k = 0; k < 6; k++) {
            Check.due("opened " + k, p.opened(k), samples[k]);
        }
        Check.answers("false", p, "restore", 0, 0);
        Check.answers("false", p, "restore", 2, 0);
        Check.answers("false", p, "restore", 1, 1);
        Check.answers("true", p, "restore", 2, 1);
        for (int k = 0; k < 6; k++) {
            Check.due("restored end " + k, p.at(0, 16 + k % 2, 8 + k / 2), samples[k]);
        }
        Check.due("and nothing else", p.zoom(0, 0, 0, 18, 11), 99 * (18 * 11 - 6) + 5 + 9 + 5 + 5 + 4 + 2);
        Counted lying = new Counted(3, 2);
        Check.loadWithSum(lying, 2, 3, 0, 0, 0);
        lying.open();
        Check.answers("false", lying, "restore", 0, 0);
    }

    /** The tile stays the latest one after it was put back, and after it did not fit. */
    private static void restoreAgain() {
        Counted p = new Counted(9, 8);
        p.put(0, 0, 200);
        p.pack(0, 0, 0);
        p.open();
        for (int time = 0; time < 2; time++) {
            p.change(0, 0, 9, 8, 0);
            Check.answers("false", p, "restore", 1, 0);
            Check.due("nothing changed", p.zoom(0, 0, 0, 9, 8), 0);
            Check.answers("true", p, "restore", 0, 0);
            Check.due("put back", p.at(0, 0, 0), 200);
            Check.due("still opened", p.opened(0), 200);
        }
        Check.answers(Check.NO_PLACE, p, "restore", 0, 1);
        Check.answers(Check.NO_PLACE, p, "restore", 2, 0);
    }

    /** A tile of another level fits where the sizes are the same. */
    private static void restoreOfAnotherPicturesTile() {
        Counted p = new Counted(16, 16);
        p.change(0, 0, 2, 2, 40);
        p.pack(1, 0, 0);
        Check.due("level 1", p.open(), 64);
        Check.answers("true", p, "restore", 1, 1);
        Check.due("first", p.at(0, 8, 8), 40);
        Check.due("all", p.zoom(0, 0, 0, 16, 16), 5 * 40);
    }
}
