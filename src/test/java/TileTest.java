/** Promises 10 to 17: pack, load, clear, byteAt, poke, open, opened, restore. */
public final class TileTest {
    private static final int MIN = Integer.MIN_VALUE;
    private static final int MAX = Integer.MAX_VALUE;

    public static void main(String[] args) {
        packBytes();
        packOfLevels();
        packRefuses();
        loadAndClear();
        byteAtAndPoke();
        openRight();
        openWrongSum();
        openNoTile();
        openedStays();
        restore();
        restoreRefuses();
        everyAlteredBitIsSeen();
        Check.end("TileTest");
    }

    private static void buffer(String what, TilePyramid p, int... due) {
        for (int k = 0; k < due.length; k++) {
            Check.due(what + " byte " + k, p.byteAt(k), due[k]);
        }
        Check.noPlace(what + " is longer", () -> p.byteAt(due.length));
    }

    private static void packBytes() {
        TilePyramid p = new TilePyramid(1, 1);
        Check.due("pack 0", p.pack(0, 0, 0), 5);
        // s: 2, then 257 * 2 + 2 = 516, then 257 * 516 + 1 = 132613, that is 1571 = 6 * 256 + 35.
        buffer("pack 0", p, 1, 1, 0, 35, 6);
        p.put(0, 0, 255);
        Check.due("pack 255", p.pack(0, 0, 0), 7);
        p.clear();
        TilePyramid q = new TilePyramid(3, 3);
        q.change(0, 0, 3, 3, 255);
        q.change(1, 1, 1, 1, 0);
        Check.due("pack with both greatest", q.pack(0, 0, 0), 2 + 5 + 5 + 1 + 2);
        int[] due = {3, 3, 9, 510 & 255, 1, 0, 0, 9, 0, 509 << 1 & 255, 509 >> 7 | 510 << 2 & 255,
            510 >> 6, 0};
        for (int k = 0; k < due.length; k++) {
            Check.due("both greatest byte " + k, q.byteAt(k), due[k]);
        }
        TilePyramid full = new TilePyramid(8, 8);
        for (int k = 0; k < 64; k++) {
            full.put(k % 8, k / 8, (k % 8 + k / 8) % 2 * 255);
        }
        Check.due("the longest", full.pack(0, 0, 0), 2 + 8 * 10 + 2);
        Check.due("it replaces", full.clear(), 84);
    }

    private static void packOfLevels() {
        TilePyramid p = new TilePyramid(19, 10);
        p.change(16, 8, 3, 2, 4);
        Check.due("end tile", p.pack(0, 2, 1), 2 + 3 + 1 + 2);
        Check.due("its columns", p.byteAt(0), 3);
        Check.due("its rows", p.byteAt(1), 2);
        Check.due("bits for 8", p.byteAt(2), 4);
        Check.due("first difference", p.byteAt(3), 8);
        Check.due("no bits", p.byteAt(5), 0);
        Check.due("end tile of level 1", p.pack(1, 1, 0), 2 + 4 + 2 + 2);
        Check.due("its columns, 1", p.byteAt(0), 2);
        Check.due("its rows, 1", p.byteAt(1), 5);
        Check.due("last row's bits", p.byteAt(6), 4);
        Check.due("last row", p.byteAt(7), 8);
    }

    private static void packRefuses() {
        TilePyramid p = new TilePyramid(16, 9);
        p.pack(0, 1, 1);
        String before = Check.stateOf(p);
        for (int[] r : new int[][] {{-1, 0, 0}, {5, 0, 0}, {0, 2, 0}, {0, 0, 2}, {0, -1, 0}, {0, 0, -1},
            {1, 1, 0}, {1, 0, 1}, {4, 1, 0}, {MAX, 0, 0}, {MIN, 0, 0}, {32, 0, 0}, {0, MAX, 0},
            {0, 0, MIN}, {0, 1 << 29, 0}, {0, 0, 1 << 29}}) {
            Check.noPlace("pack " + r[0] + " " + r[1] + " " + r[2], () -> p.pack(r[0], r[1], r[2]));
        }
        Check.same("after refused packs", Check.stateOf(p), before);
    }

    private static void loadAndClear() {
        TilePyramid p = new TilePyramid(2, 2);
        for (int bad : new int[] {-1, 256, MIN, MAX}) {
            Check.noArgument("load " + bad, () -> p.load(bad));
        }
        for (int k = 0; k < 256; k++) {
            Check.due("load " + k, p.load(255 - k), k + 1);
        }
        Check.noState("load beyond", () -> p.load(0));
        Check.noState("load beyond what is no byte", () -> p.load(256));
        for (int k = 0; k < 256; k++) {
            Check.due("byte " + k, p.byteAt(k), 255 - k);
        }
        Check.noPlace("byte 256", () -> p.byteAt(256));
        Check.due("clear", p.clear(), 256);
        Check.due("clear again", p.clear(), 0);
        Check.noPlace("byte 0", () -> p.byteAt(0));
        p.pack(0, 0, 0);
        Check.due("load behind a packed tile", p.load(1), 7);
    }

    private static void byteAtAndPoke() {
        TilePyramid p = new TilePyramid(2, 2);
        p.load(0x5a);
        p.load(255);
        Check.due("poke", p.poke(0, 0xff), 0xa5);
        Check.due("poked", p.byteAt(0), 0xa5);
        Check.due("poke one bit", p.poke(1, 128), 127);
        Check.due("the other stays", p.byteAt(0), 0xa5);
        String before = Check.stateOf(p);
        for (int k : new int[] {-1, 2, 255, 256, MIN, MAX}) {
            Check.noPlace("byteAt " + k, () -> p.byteAt(k));
            Check.noPlace("poke " + k, () -> p.poke(k, 1));
            Check.noPlace("poke no mask " + k, () -> p.poke(k, 0));
        }
        for (int mask : new int[] {0, -1, 256, MIN, MAX}) {
            Check.noArgument("poke mask " + mask, () -> p.poke(1, mask));
        }
        Check.same("after refused pokes", Check.stateOf(p), before);
    }

    private static void openRight() {
        TilePyramid p = new TilePyramid(8, 8);
        for (int k = 0; k < 64; k++) {
            p.put(k % 8, k / 8, (k * 167 + k * k) % 256);
        }
        p.pack(0, 0, 0);
        Check.due("open", p.open(), 64);
        for (int k = 0; k < 64; k++) {
            Check.due("opened " + k, p.opened(k), p.at(0, k % 8, k / 8));
        }
        for (int k : new int[] {-1, 64, MIN, MAX}) {
            Check.noPlace("opened " + k, () -> p.opened(k));
        }
        Check.loadWithSum(p, 2, 3, 4, 0x8a, 0, 2, 0x0d);
        Check.due("open 2 by 3", p.open(), 6);
        int[] due = {5, 9, 5, 5, 4, 2};
        for (int k = 0; k < 6; k++) {
            Check.due("opened of 2 by 3 " + k, p.opened(k), due[k]);
        }
        Check.noPlace("opened 6", () -> p.opened(6));
        Check.due("the buffer stays", p.byteAt(6), 0x0d);
        Check.due("its length too", p.clear(), 9);
        Check.due("what was opened stays", p.opened(1), 9);
    }

    private static void openWrongSum() {
        TilePyramid p = new TilePyramid(2, 2);
        Check.due("open empty", p.open(), 0);
        p.load(0);
        Check.due("open one byte", p.open(), 0);
        p.load(0);
        Check.due("open two bytes", p.open(), TilePyramid.NONE);
        p.clear();
        p.load(65521 & 255);
        p.load(65521 >> 8);
        Check.due("65521 is no sum, though 0 modulo itself", p.open(), 0);
        p.pack(0, 0, 0);
        Check.due("open packed", p.open(), 4);
        int low = p.byteAt(4);
        int high = p.byteAt(5);
        p.clear();
        for (int b : new int[] {2, 2, 0, 0, high, low}) {
            p.load(b);
        }
        Check.due("sum in the wrong order", p.open(), 0);
        p.pack(0, 0, 0);
        p.load(0);
        Check.due("a byte behind", p.open(), 0);
    }

    private static void openNoTile() {
        TilePyramid p = new TilePyramid(2, 2);
        noTile(p, "nothing");
        noTile(p, "one byte", 1);
        noTile(p, "no rows", 1, 1);
        noTile(p, "columns 0", 0, 1, 0);
        noTile(p, "columns 9", 9, 1, 0);
        noTile(p, "rows 0", 1, 0);
        noTile(p, "rows 9", 1, 9, 0, 0, 0, 0, 0, 0, 0, 0, 0);
        noTile(p, "columns 255", 255, 1, 0);
        noTile(p, "bits 10", 1, 1, 10, 0, 2);
        noTile(p, "bits 255", 1, 1, 255, 255);
        noTile(p, "more bits than needed", 1, 1, 5, 12);
        noTile(p, "more bits than 0 needs", 1, 1, 1, 0);
        noTile(p, "more bits in a later row", 1, 2, 0, 3, 2);
        noTile(p, "a rest", 1, 1, 4, 0x1c);
        noTile(p, "a rest's last bit", 1, 1, 4, 0x8c);
        noTile(p, "a rest in an early row", 1, 2, 4, 0x8c, 0);
        noTile(p, "a sample below 0", 1, 1, 1, 1);
        noTile(p, "a sample -256", 1, 1, 9, 255, 1);
        noTile(p, "a sample above 255", 2, 1, 9, 254, 5, 0);
        noTile(p, "a sample above 255 in a later row", 1, 2, 9, 254, 1, 2, 2);
        noTile(p, "bits missing", 1, 1, 4);
        noTile(p, "a byte of bits missing", 1, 1, 9, 254);
        noTile(p, "a row missing", 1, 2, 0);
        noTile(p, "a byte left over", 1, 1, 0, 0);
        noTile(p, "a row left over", 1, 1, 0, 1, 2);
        int[] full = new int[254];
        full[0] = 1;
        full[1] = 1;
        noTile(p, "256 bytes", full);
        tile(p, "least", 1, 1, 1, 0);
        tile(p, "greatest sample", 1, 1, 1, 9, 254, 1);
        tile(p, "eight by eight", 64, 8, 8, 0, 0, 0, 0, 0, 0, 0, 0);
        tile(p, "bits that fill a byte", 8, 8, 1, 2, 2, 0);
        tile(p, "only 255 and back to 0", 2, 2, 1, 9, 254, 251 & 255, 3);
    }

    private static void noTile(TilePyramid p, String what, int... body) {
        Check.loadWithSum(p, 2, 1, 4, 0x0c);
        Check.due("a tile before", p.open(), 2);
        Check.loadWithSum(p, body);
        Check.due("no tile, " + what, p.open(), TilePyramid.NONE);
        Check.due("before it, 0", p.opened(0), 6);
        Check.due("before it, 1", p.opened(1), 6);
        Check.noPlace("before it, 2", () -> p.opened(2));
    }

    private static void tile(TilePyramid p, String what, int samples, int... body) {
        Check.loadWithSum(p, body);
        Check.due("a tile, " + what, p.open(), samples);
    }

    private static void openedStays() {
        TilePyramid p = new TilePyramid(2, 1);
        p.put(0, 0, 3);
        p.put(1, 0, 8);
        p.pack(0, 0, 0);
        p.open();
        p.change(0, 0, 2, 1, 200);
        p.pack(0, 0, 0);
        Check.due("after another pack, 0", p.opened(0), 3);
        Check.due("after another pack, 1", p.opened(1), 8);
        p.poke(0, 1);
        Check.due("altered", p.open(), 0);
        Check.due("after a wrong sum", p.opened(1), 8);
        p.clear();
        Check.due("nothing to open", p.open(), 0);
        Check.due("after no bytes", p.opened(1), 8);
        Check.noPlace("still two samples", () -> p.opened(2));
        p.pack(1, 0, 0);
        Check.due("the next", p.open(), 1);
        Check.due("opened of the next", p.opened(0), 200);
        Check.noPlace("one sample now", () -> p.opened(1));
    }

    private static void restore() {
        TilePyramid p = new TilePyramid(18, 11);
        for (int y = 0; y < 11; y++) {
            for (int x = 0; x < 18; x++) {
                p.put(x, y, 18 * y + x);
            }
        }
        p.pack(0, 0, 0);
        p.open();
        Check.due("8 by 8 into 8 by 8", p.restore(1, 0) ? 1 : 0, 1);
        for (int k = 0; k < 64; k++) {
            Check.due("restored " + k, p.at(0, 8 + k % 8, k / 8), 18 * (k / 8) + k % 8);
        }
        Check.due("beside it", p.at(0, 16, 0), 16);
        Check.due("beneath it", p.at(0, 8, 8), 18 * 8 + 8);
        Check.due("above it", p.at(1, 4, 0), 10);
        String before = Check.stateOf(p);
        Check.due("8 by 8 into 2 by 8", p.restore(2, 0) ? 1 : 0, 0);
        Check.due("8 by 8 into 8 by 3", p.restore(0, 1) ? 1 : 0, 0);
        Check.due("8 by 8 into 2 by 3", p.restore(2, 1) ? 1 : 0, 0);
        Check.same("after tiles that do not fit", Check.stateOf(p), before);
        Check.loadWithSum(p, 2, 3, 4, 0x8a, 0, 2, 0x0d);
        p.open();
        Check.due("2 by 3 into 2 by 3", p.restore(2, 1) ? 1 : 0, 1);
        Check.due("restored end 0", p.at(0, 16, 8), 5);
        Check.due("restored end 5", p.at(0, 17, 10), 2);
        TilePyramid lying = new TilePyramid(3, 2);
        Check.loadWithSum(lying, 2, 3, 0, 0, 0);
        lying.open();
        Check.due("as many samples, other sides", lying.restore(0, 0) ? 1 : 0, 0);
    }

    private static void restoreRefuses() {
        TilePyramid p = new TilePyramid(9, 8);
        p.put(0, 0, 1);
        int[][] none = {{-1, 0}, {0, -1}, {2, 0}, {0, 1}, {MAX, 0}, {0, MIN}, {1 << 29, 0}, {0, 1 << 29}};
        for (int opened = 0; opened < 2; opened++) {
            String before = Check.stateOf(p);
            for (int[] ij : none) {
                Check.noPlace("restore " + ij[0] + " " + ij[1], () -> p.restore(ij[0], ij[1]) ? 1 : 0);
            }
            Check.same("after refused restores", Check.stateOf(p), before);
            p.pack(0, 0, 0);
            if (opened == 0) {
                Check.noState("packed, not opened", () -> p.restore(0, 0) ? 1 : 0);
                p.poke(2, 1);
                p.open();
                Check.noState("opened wrongly", () -> p.restore(0, 0) ? 1 : 0);
                Check.loadWithSum(p, 3, 3);
                p.open();
                Check.noState("opened what is none", () -> p.restore(0, 0) ? 1 : 0);
                p.pack(0, 0, 0);
                p.open();
            }
        }
    }

    private static void everyAlteredBitIsSeen() {
        TilePyramid p = new TilePyramid(8, 8);
        for (int k = 0; k < 64; k++) {
            p.put(k % 8, k / 8, k * k % 251);
        }
        int length = p.pack(0, 0, 0);
        for (int k = 0; k < length; k++) {
            for (int mask = 1; mask < 256; mask *= 2) {
                p.poke(k, mask);
                Check.due("altered " + k + " by " + mask, p.open(), 0);
                p.poke(k, mask);
            }
        }
        Check.due("as it was", p.open(), 64);
    }
}
