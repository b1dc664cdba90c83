/**
 * What each call refuses: the value just outside of each bound, values far away (where a product, a shift
 * or a sum of two could wrap round into the bounds), which exception goes before which, and that a refused
 * call changes nothing. The values just inside are asked too.
 */
public final class RefusalTest {
    private static final int MIN = Check.MIN;
    private static final int MAX = Check.MAX;
    private static final int[] NO_SAMPLES = {-1, 256, -256, 511, MIN, MIN + 255, MAX};
    private static final int[] NO_MASKS = {0, 256, -1, -255, 257, MIN, MAX};

    public static void main(String[] args) {
        putNoPlace();
        putNoSample();
        putOrder();
        changeNoPart();
        changeLengthsBelowOne();
        changeNoSample();
        changeOrder();
        sizeNoLevel();
        sizeNoAxis();
        atNoLevel();
        atNoPlace();
        meanNoPlace();
        meanNoPart();
        zoomNoLevel();
        zoomNoPart();
        zoomLengthsBelowOne();
        turnedNoPlace();
        packNoLevel();
        packNoTile();
        loadWhenFull();
        loadNoByte();
        byteAtNoByte();
        pokeNoByte();
        pokeNoMask();
        pokeOrder();
        openedNoSample();
        openedNoTile();
        restoreNoPlace();
        restoreNoneOpened();
        restoreWhatDoesNotFit();
        stripNoPlace();
        stripNoSample();
        stripOrder();
        seamNotOneToEight();
        seamAboveTheWidth();
        seamAtNoRow();
        seamAtNoSeam();
        answersChangeNothing();
        Check.end("RefusalTest");
    }

    /** Just outside and far outside of 0 .. count - 1; many of them wrap round if doubled or times 8. */
    private static int[] outside(int count) {
        return new int[] {-1, count, count + 1, -8, -32, 1 << 28, 1 << 29, 1 << 30, -(1 << 28), -(1 << 29),
            MIN, MIN + 1, MAX - 1, MAX};
    }

    /** Start and length along a side, of which no part can be; the other side's is a good one. */
    private static int[][] noParts(int side) {
        return new int[][] {{-1, 1}, {-1, 2}, {-1, side + 1}, {side, 1}, {side, 0}, {side - 1, 2}, {0, side + 1},
            {1, side}, {0, 0}, {0, -1}, {side - 1, 0}, {1, -1}, {side, -1}, {0, MIN}, {0, MAX}, {1, MAX},
            {side - 1, MAX}, {side - 1, MAX - side + 2}, {MAX, 1}, {MAX, 2}, {MAX, MAX}, {MAX, MIN}, {MIN, 1},
            {MIN, MIN}, {MIN, MAX}, {MIN + 1, MAX}, {-MAX, MIN}, {1, MIN}, {1 << 30, 1 << 30}, {-5, 6}};
    }

    /** Promise 2: "IndexOutOfBoundsException: place." */
    private static void putNoPlace() {
        for (int x : outside(3)) {
            Check.refused(Check.NO_PLACE, Made::used, "put", x, 1, 1);
        }
        for (int y : outside(2)) {
            Check.refused(Check.NO_PLACE, Made::used, "put", 1, y, 1);
        }
        for (int far : outside(40)) {
            Check.refused(Check.NO_PLACE, Made::great, "put", far, 39, 1);
            Check.refused(Check.NO_PLACE, Made::great, "put", 39, far, 1);
        }
        Check.refused(Check.NO_PLACE, Made::least, "put", 1, 0, 1);
        Check.refused(Check.NO_PLACE, Made::least, "put", 0, 1, 1);
        Check.refused(Check.NO_PLACE, Made::used, "put", -1, 1, 0);
        Check.refused(Check.NO_PLACE, Made::used, "put", 3, -1, 0);
        Check.answers("100", Made.used(), "put", 0, 0, 1);
        Check.answers("60", Made.used(), "put", 2, 1, 1);
        Check.answers("239", Made.great(), "put", 39, 39, 1);
    }

    /** Promise 2: "IllegalArgumentException: v." */
    private static void putNoSample() {
        for (int v : NO_SAMPLES) {
            Check.refused(Check.NO_ARGUMENT, Made::used, "put", 0, 0, v);
            Check.refused(Check.NO_ARGUMENT, Made::used, "put", 2, 1, v);
        }
        Check.answers("100", Made.used(), "put", 0, 0, 255);
        Check.answers("60", Made.used(), "put", 2, 1, 0);
    }

    /** The place goes before the sample. */
    private static void putOrder() {
        for (int v : NO_SAMPLES) {
            Check.refused(Check.NO_PLACE, Made::used, "put", 3, 0, v);
            Check.refused(Check.NO_PLACE, Made::used, "put", 0, -1, v);
        }
    }

    /** Promise 3: "the part is not in the picture" */
    private static void changeNoPart() {
        for (int[] part : noParts(3)) {
            Check.refused(Check.NO_PLACE, Made::used, "change", part[0], 0, part[1], 1, 1);
        }
        for (int[] part : noParts(2)) {
            Check.refused(Check.NO_PLACE, Made::used, "change", 0, part[0], 1, part[1], 1);
        }
        for (int[] part : noParts(40)) {
            Check.refused(Check.NO_PLACE, Made::great, "change", part[0], 1, part[1], 39, 1);
            Check.refused(Check.NO_PLACE, Made::great, "change", 1, part[0], 39, part[1], 1);
            Check.refused(Check.NO_PLACE, Made::great, "change", part[0], part[0], part[1], part[1], 1);
        }
        Check.answers("3", Made.used(), "change", 0, 0, 3, 2, 1);
        Check.answers("3", Made.used(), "change", 2, 1, 1, 1, 1);
        Check.answers("42", Made.great(), "change", 0, 0, 40, 40, 1);
    }

    /** Promise 3: "or w or h is below 1", wherever the part begins. */
    private static void changeLengthsBelowOne() {
        for (int length : new int[] {0, -1, -2, MIN, MIN + 1, -MAX}) {
            for (int k = 0; k < 6; k++) {
                Check.refused(Check.NO_PLACE, Made::used, "change", k % 3, k / 3, length, 1, 1);
                Check.refused(Check.NO_PLACE, Made::used, "change", k % 3, k / 3, 1, length, 1);
                Check.refused(Check.NO_PLACE, Made::used, "change", k % 3, k / 3, length, length, 1);
            }
        }
    }

    /** Promise 3: "IllegalArgumentException: v." */
    private static void changeNoSample() {
        for (int v : NO_SAMPLES) {
            Check.refused(Check.NO_ARGUMENT, Made::used, "change", 0, 0, 3, 2, v);
            Check.refused(Check.NO_ARGUMENT, Made::used, "change", 2, 1, 1, 1, v);
        }
        Check.answers("3", Made.used(), "change", 0, 0, 3, 2, 0);
        Check.answers("3", Made.used(), "change", 0, 0, 3, 2, 255);
    }

    /** The part goes before the sample. */
    private static void changeOrder() {
        for (int v : NO_SAMPLES) {
            Check.refused(Check.NO_PLACE, Made::used, "change", 0, 0, 4, 1, v);
            Check.refused(Check.NO_PLACE, Made::used, "change", 0, 0, 1, 0, v);
            Check.refused(Check.NO_PLACE, Made::used, "change", 1, -1, 1, 1, v);
        }
    }

    /** Promise 5: a level there is none of. */
    private static void sizeNoLevel() {
        for (int level : outside(7)) {
            Check.refused(Check.NO_PLACE, Made::great, "size", level, 0);
            Check.refused(Check.NO_PLACE, Made::great, "size", level, 1);
        }
        Check.refused(Check.NO_PLACE, Made::great, "size", 32, 0);
        Check.refused(Check.NO_PLACE, Made::great, "size", 64, 1);
        Check.refused(Check.NO_PLACE, Made::least, "size", 1, 0);
        Check.refused(Check.NO_PLACE, Made::great, "size", 7, 2);
        Check.answers("40", Made.great(), "size", 0, 0);
        Check.answers("1", Made.great(), "size", 6, 0);
    }

    /** Promise 5: an axis that is not 0 or 1. */
    private static void sizeNoAxis() {
        for (int axis : outside(2)) {
            Check.refused(Check.NO_PLACE, Made::great, "size", 0, axis);
            Check.refused(Check.NO_PLACE, Made::great, "size", 6, axis);
        }
        Check.answers("9", Made.ended(), "size", 0, 0);
        Check.answers("17", Made.ended(), "size", 0, 1);
    }

    /** Promise 6: "level" */
    private static void atNoLevel() {
        for (int level : outside(6)) {
            Check.refused(Check.NO_PLACE, Made::ended, "at", level, 0, 0);
        }
        Check.refused(Check.NO_PLACE, Made::ended, "at", 32, 0, 0);
        Check.refused(Check.NO_PLACE, Made::least, "at", 1, 0, 0);
        Check.answers("8", Made.least(), "at", 0, 0, 0);
    }

    /** Promise 6: "or place", which is one of that level. */
    private static void atNoPlace() {
        int[][] columnsAndRows = {{9, 17}, {5, 9}, {3, 5}, {2, 3}, {1, 2}, {1, 1}};
        // Then of 8 samples 5 and one 77, and of 152 and one: 117 / 9 and 837 / 153.
        String[] corners = {"77", "77", "77", "77", "13", "5"};
        for (int level = 0; level < 6; level++) {
            int columns = columnsAndRows[level][0];
            int rows = columnsAndRows[level][1];
            for (int x : outside(columns)) {
                Check.refused(Check.NO_PLACE, Made::ended, "at", level, x, rows - 1);
            }
            for (int y : outside(rows)) {
                Check.refused(Check.NO_PLACE, Made::ended, "at", level, columns - 1, y);
            }
            Check.answers(corners[level], Made.ended(), "at", level, columns - 1, rows - 1);
        }
    }

    /** Promise 7: "level, place" */
    private static void meanNoPlace() {
        for (int level : outside(6)) {
            Check.refused(Check.NO_PLACE, Made::ended, "mean", level, 0, 0, 0);
        }
        Check.refused(Check.NO_PLACE, Made::ended, "mean", 32, 0, 0, 1);
        for (int x : outside(5)) {
            Check.refused(Check.NO_PLACE, Made::ended, "mean", 1, x, 8, 0);
        }
        for (int y : outside(9)) {
            Check.refused(Check.NO_PLACE, Made::ended, "mean", 1, 4, y, 1);
        }
        Check.answers("77", Made.ended(), "mean", 0, 8, 16, 0);
        Check.answers("93", Made.ended(), "mean", 5, 0, 0, 0);
        Check.answers("17", Made.ended(), "mean", 5, 0, 0, 1);
    }

    /** Promise 7: "or part" */
    private static void meanNoPart() {
        for (int part : outside(2)) {
            Check.refused(Check.NO_PLACE, Made::ended, "mean", 1, 4, 8, part);
            Check.refused(Check.NO_PLACE, Made::ended, "mean", 0, 0, 0, part);
        }
        Check.answers("77", Made.ended(), "mean", 1, 4, 8, 0);
        Check.answers("1", Made.ended(), "mean", 1, 4, 8, 1);
    }

    /** Promise 8: "level" */
    private static void zoomNoLevel() {
        for (int level : outside(6)) {
            Check.refused(Check.NO_PLACE, Made::ended, "zoom", level, 0, 0, 1, 1);
        }
        Check.refused(Check.NO_PLACE, Made::ended, "zoom", 32, 0, 0, 1, 1);
        Check.answers("5", Made.ended(), "zoom", 5, 0, 0, 1, 1);
    }

    /** Promise 8: "or the part is not in it" */
    private static void zoomNoPart() {
        for (int[] part : noParts(9)) {
            Check.refused(Check.NO_PLACE, Made::ended, "zoom", 0, part[0], 0, part[1], 17);
        }
        for (int[] part : noParts(17)) {
            Check.refused(Check.NO_PLACE, Made::ended, "zoom", 0, 0, part[0], 9, part[1]);
        }
        for (int[] part : noParts(5)) {
            Check.refused(Check.NO_PLACE, Made::ended, "zoom", 1, part[0], 1, part[1], 8);
            Check.refused(Check.NO_PLACE, Made::ended, "zoom", 2, 1, part[0], 2, part[1]);
        }
        Check.answers("837", Made.ended(), "zoom", 0, 0, 0, 9, 17);
        Check.answers("77", Made.ended(), "zoom", 0, 8, 16, 1, 1);
        Check.answers("297", Made.ended(), "zoom", 1, 0, 0, 5, 9);
        Check.answers("77", Made.ended(), "zoom", 1, 4, 8, 1, 1);
    }

    /** Promise 8: "or w or h is below 1" */
    private static void zoomLengthsBelowOne() {
        for (int length : new int[] {0, -1, -2, MIN, MIN + 1, -MAX}) {
            for (int level = 0; level < 6; level++) {
                Check.refused(Check.NO_PLACE, Made::ended, "zoom", level, 0, 0, length, 1);
                Check.refused(Check.NO_PLACE, Made::ended, "zoom", level, 0, 0, 1, length);
                Check.refused(Check.NO_PLACE, Made::ended, "zoom", level, 0, 0, length, length);
            }
        }
    }

    /** Promise 9: "the turned picture has no such place": an odd number of quarters changes the sides. */
    private static void turnedNoPlace() {
        for (int quarters : new int[] {0, 2, 4, -2, -4, MIN, MAX - 1}) {
            for (int x : outside(9)) {
                Check.refused(Check.NO_PLACE, Made::ended, "turned", x, 16, quarters);
            }
            for (int y : outside(17)) {
                Check.refused(Check.NO_PLACE, Made::ended, "turned", 8, y, quarters);
            }
        }
        for (int quarters : new int[] {1, 3, 5, -1, -3, MIN + 1, MAX}) {
            for (int x : outside(17)) {
                Check.refused(Check.NO_PLACE, Made::ended, "turned", x, 8, quarters);
            }
            for (int y : outside(9)) {
                Check.refused(Check.NO_PLACE, Made::ended, "turned", 16, y, quarters);
            }
        }
        Check.answers("77", Made.ended(), "turned", 8, 16, 0);
        Check.answers("77", Made.ended(), "turned", 0, 8, 1);
        Check.answers("77", Made.ended(), "turned", 0, 0, 2);
        Check.answers("77", Made.ended(), "turned", 16, 0, 3);
    }

    /** Promise 10: "level" */
    private static void packNoLevel() {
        for (int level : outside(6)) {
            Check.refused(Check.NO_PLACE, Made::ended, "pack", level, 0, 0);
        }
        Check.refused(Check.NO_PLACE, Made::ended, "pack", 32, 0, 0);
        Check.refused(Check.NO_PLACE, Made::least, "pack", 1, 0, 0);
        Check.answers("6", Made.ended(), "pack", 5, 0, 0);
    }

    /** Promise 10: "or tile", which is one of that level. */
    private static void packNoTile() {
        int[][] tiles = {{2, 3}, {1, 2}, {1, 1}, {1, 1}, {1, 1}, {1, 1}};
        for (int level = 0; level < 6; level++) {
            for (int i : outside(tiles[level][0])) {
                Check.refused(Check.NO_PLACE, Made::ended, "pack", level, i, tiles[level][1] - 1);
            }
            for (int j : outside(tiles[level][1])) {
                Check.refused(Check.NO_PLACE, Made::ended, "pack", level, tiles[level][0] - 1, j);
            }
        }
        for (int far : outside(5)) {
            Check.refused(Check.NO_PLACE, Made::great, "pack", 0, far, 4);
            Check.refused(Check.NO_PLACE, Made::great, "pack", 0, 4, far);
        }
        Check.refused(Check.NO_PLACE, Made::fresh, "pack", 0, 1, 0);
        Check.refused(Check.NO_PLACE, Made::full, "pack", 0, 0, 1);
        Check.answers("6", Made.ended(), "pack", 0, 1, 2);
    }

    /** Promise 11: "IllegalStateException: it has 256." It goes before the byte. */
    private static void loadWhenFull() {
        for (int b : new int[] {0, 1, 255, -1, 256, -128, 257, MIN, MAX}) {
            Check.refused(Check.NO_STATE, Made::full, "load", b);
        }
        Check.answers("256", almostFull(), "load", 255);
        Check.answers("256", almostFull(), "load", 0);
        Counted p = almostFull();
        p.load(1);
        Check.answers(Check.NO_STATE, p, "load", 1);
        p.clear();
        Check.answers("1", p, "load", 1);
    }

    /** Promise 11: "IllegalArgumentException: b is none." */
    private static void loadNoByte() {
        for (int b : new int[] {-1, 256, -128, 257, MIN, MAX}) {
            Check.refused(Check.NO_ARGUMENT, Made::fresh, "load", b);
            Check.refused(Check.NO_ARGUMENT, Made::used, "load", b);
            Check.refused(Check.NO_ARGUMENT, RefusalTest::almostFull, "load", b);
        }
        Check.answers("1", Made.fresh(), "load", 0);
        Check.answers("1", Made.fresh(), "load", 255);
    }

    private static Counted almostFull() {
        Counted p = new Counted(3, 2);
        for (int k = 0; k < 255; k++) {
            p.load(k);
        }
        return p;
    }

    /** Promise 13: a byte that the buffer has not, be it empty or full. */
    private static void byteAtNoByte() {
        for (int k : outside(0)) {
            Check.refused(Check.NO_PLACE, Made::fresh, "byteAt", k);
        }
        for (int k : outside(6)) {
            Check.refused(Check.NO_PLACE, Made::ended, "byteAt", k);
        }
        for (int k : outside(256)) {
            Check.refused(Check.NO_PLACE, Made::full, "byteAt", k);
        }
        Check.answers("255", Made.full(), "byteAt", 0);
        Check.answers("0", Made.full(), "byteAt", 255);
        Counted cleared = Made.full();
        cleared.clear();
        Check.answers(Check.NO_PLACE, cleared, "byteAt", 0);
        Check.answers(Check.NO_PLACE, cleared, "byteAt", 255);
    }

    /** Promise 14: a byte that the buffer has not, be it empty or full. */
    private static void pokeNoByte() {
        for (int k : outside(0)) {
            Check.refused(Check.NO_PLACE, Made::fresh, "poke", k, 1);
        }
        for (int k : outside(6)) {
            Check.refused(Check.NO_PLACE, Made::ended, "poke", k, 1);
        }
        for (int k : outside(256)) {
            Check.refused(Check.NO_PLACE, Made::full, "poke", k, 255);
        }
        Check.answers("254", Made.full(), "poke", 0, 1);
        Check.answers("255", Made.full(), "poke", 255, 255);
    }

    /** Promise 14: "mask is not 1 .. 255" */
    private static void pokeNoMask() {
        for (int mask : NO_MASKS) {
            Check.refused(Check.NO_ARGUMENT, Made::ended, "poke", 0, mask);
            Check.refused(Check.NO_ARGUMENT, Made::full, "poke", 255, mask);
        }
        Check.answers("254", Made.full(), "poke", 0, 1);
        Check.answers("0", Made.full(), "poke", 0, 255);
    }

    /** The byte goes before the mask. */
    private static void pokeOrder() {
        for (int mask : NO_MASKS) {
            Check.refused(Check.NO_PLACE, Made::ended, "poke", 6, mask);
            Check.refused(Check.NO_PLACE, Made::fresh, "poke", 0, mask);
            Check.refused(Check.NO_PLACE, Made::full, "poke", 256, mask);
        }
    }

    /** Promise 16: a sample that the latest tile has not. */
    private static void openedNoSample() {
        for (int k : outside(6)) {
            Check.refused(Check.NO_PLACE, Made::used, "opened", k);
        }
        for (int k : outside(64)) {
            Check.refused(Check.NO_PLACE, Made::great, "opened", k);
        }
        for (int k : outside(1)) {
            Check.refused(Check.NO_PLACE, Made::least, "opened", k);
        }
        Check.answers("10", Made.used(), "opened", 0);
        Check.answers("60", Made.used(), "opened", 5);
        Check.answers("223", Made.great(), "opened", 63);
        Check.answers("9", Made.least(), "opened", 0);
    }

    /** Promise 16: no tile was opened, though one may have been packed. */
    private static void openedNoTile() {
        for (int k : outside(0)) {
            Check.refused(Check.NO_PLACE, Made::fresh, "opened", k);
            Check.refused(Check.NO_PLACE, Made::ended, "opened", k);
        }
    }

    /** Promise 17: "IndexOutOfBoundsException: tile." It goes before the state. */
    private static void restoreNoPlace() {
        for (int i : outside(2)) {
            Check.refused(Check.NO_PLACE, Made::ended, "restore", i, 2);
        }
        for (int j : outside(3)) {
            Check.refused(Check.NO_PLACE, Made::ended, "restore", 1, j);
        }
        for (int far : outside(5)) {
            Check.refused(Check.NO_PLACE, Made::great, "restore", far, 0);
            Check.refused(Check.NO_PLACE, Made::great, "restore", 0, far);
        }
        for (int far : outside(1)) {
            Check.refused(Check.NO_PLACE, Made::fresh, "restore", far, 0);
            Check.refused(Check.NO_PLACE, Made::used, "restore", 0, far);
        }
        Check.answers("true", Made.used(), "restore", 0, 0);
        Check.answers("true", Made.great(), "restore", 4, 4);
    }

    /** Promise 17: "IllegalStateException: none was opened." */
    private static void restoreNoneOpened() {
        Check.refused(Check.NO_STATE, Made::fresh, "restore", 0, 0);
        for (int i = 0; i < 2; i++) {
            for (int j = 0; j < 3; j++) {
                Check.refused(Check.NO_STATE, Made::ended, "restore", i, j);
            }
        }
        Check.Maker openedInVain = () -> {
            Counted p = Made.fresh();
            Check.loadWithSum(p, 3, 2);
            p.open();
            p.pack(0, 0, 0);
            p.poke(0, 1);
            p.open();
            return p;
        };
        Check.refused(Check.NO_STATE, openedInVain, "restore", 0, 0);
        Counted p = openedInVain.make();
        p.poke(0, 1);
        p.open();
        Check.answers("true", p, "restore", 0, 0);
    }

    /** Promise 17: "whether it has as many columns and rows (else nothing changes)". */
    private static void restoreWhatDoesNotFit() {
        int[][] sizes = {{8, 8}, {1, 8}, {8, 1}, {1, 1}, {7, 8}, {8, 7}, {2, 8}, {8, 2}, {1, 2}, {2, 1}};
        int[][] tiles = {{0, 0}, {1, 0}, {0, 2}, {1, 2}};
        for (int[] size : sizes) {
            for (int[] tile : tiles) {
                int columns = tile[0] == 1 ? 1 : 8;
                int rows = tile[1] == 2 ? 1 : 8;
                boolean fits = size[0] == columns && size[1] == rows;
                Check.Maker maker = () -> withTile(size[0], size[1]);
                Check.answers(String.valueOf(fits), maker.make(), "restore", tile[0], tile[1]);
                if (!fits) {
                    Check.changesNothing(maker, "restore", tile[0], tile[1]);
                }
            }
        }
    }

    /** 9 by 17, all 5, and a tile of that size, all 0, was opened. */
    private static Counted withTile(int columns, int rows) {
        Counted p = Made.ended();
        int[] body = new int[2 + rows];
        body[0] = columns;
        body[1] = rows;
        Check.loadWithSum(p, body);
        Check.due("the tile", p.open(), columns * rows);
        return p;
    }

    /** Promise 18: a strip has eight columns and the picture's rows. */
    private static void stripNoPlace() {
        for (int x : outside(8)) {
            Check.refused(Check.NO_PLACE, Made::used, "strip", x, 1, 1);
            Check.refused(Check.NO_PLACE, Made::least, "strip", x, 0, 1);
            Check.refused(Check.NO_PLACE, Made::great, "strip", x, 39, 1);
        }
        for (int y : outside(2)) {
            Check.refused(Check.NO_PLACE, Made::used, "strip", 7, y, 1);
        }
        for (int y : outside(40)) {
            Check.refused(Check.NO_PLACE, Made::great, "strip", 7, y, 1);
        }
        Check.answers("100", Made.used(), "strip", 0, 0, 1);
        Check.answers("130", Made.great(), "strip", 7, 39, 1);
    }

    /** Promise 18: "IllegalArgumentException likewise" */
    private static void stripNoSample() {
        for (int v : NO_SAMPLES) {
            Check.refused(Check.NO_ARGUMENT, Made::used, "strip", 0, 0, v);
            Check.refused(Check.NO_ARGUMENT, Made::used, "strip", 7, 1, v);
        }
        Check.answers("100", Made.used(), "strip", 0, 0, 255);
        Check.answers("115", Made.used(), "strip", 7, 1, 0);
    }

    /** The place goes before the sample. */
    private static void stripOrder() {
        for (int v : NO_SAMPLES) {
            Check.refused(Check.NO_PLACE, Made::used, "strip", 8, 0, v);
            Check.refused(Check.NO_PLACE, Made::used, "strip", 0, 2, v);
        }
    }

    /** Promise 19: "it is not 1 .. 8" */
    private static void seamNotOneToEight() {
        for (int overlap : new int[] {0, -1, 9, 10, 40, MIN, MAX}) {
            Check.refused(Check.NO_ARGUMENT, Made::great, "seam", overlap);
            Check.refused(Check.NO_ARGUMENT, Made::ended, "seam", overlap);
        }
        Check.refused(Check.NO_ARGUMENT, Made::least, "seam", 0);
        Check.answers("0", new Counted(40, 3), "seam", 8);
        Check.answers("0", new Counted(40, 3), "seam", 1);
    }

    /** Promise 19: "or above the picture's width" */
    private static void seamAboveTheWidth() {
        for (int overlap : new int[] {0, -1, 4, 8, 9, MIN, MAX}) {
            Check.refused(Check.NO_ARGUMENT, Made::used, "seam", overlap);
            Check.refused(Check.NO_ARGUMENT, Made::fresh, "seam", overlap);
        }
        Check.refused(Check.NO_ARGUMENT, Made::least, "seam", 2);
        Check.answers("16", Made.least(), "seam", 1);
        for (int width = 1; width <= 10; width++) {
            for (int overlap = 0; overlap <= 10; overlap++) {
                boolean can = overlap >= 1 && overlap <= 8 && overlap <= width;
                Check.answers(can ? "0" : Check.NO_ARGUMENT, new Counted(width, 3), "seam", overlap);
            }
        }
    }

    /** Promise 20: "row" */
    private static void seamAtNoRow() {
        for (int row : outside(2)) {
            Check.refused(Check.NO_PLACE, Made::used, "seamAt", row);
        }
        for (int row : outside(40)) {
            Check.refused(Check.NO_PLACE, Made::great, "seamAt", row);
        }
        for (int row : outside(1)) {
            Check.refused(Check.NO_PLACE, Made::least, "seamAt", row);
        }
        Check.answers("2", Made.used(), "seamAt", 0);
        Check.answers("2", Made.used(), "seamAt", 1);
        Check.answers("0", Made.least(), "seamAt", 0);
    }

    /** Promise 20: "or there was no seam": a refused one is none. */
    private static void seamAtNoSeam() {
        for (int row = -1; row <= 2; row++) {
            Check.refused(Check.NO_PLACE, Made::fresh, "seamAt", row);
        }
        Check.refused(Check.NO_PLACE, Made::ended, "seamAt", 0);
        Check.refused(Check.NO_PLACE, Made::ended, "seamAt", 16);
        Counted p = Made.fresh();
        p.call("seam", 4);
        Check.answers(Check.NO_PLACE, p, "seamAt", 0);
        p.seam(3);
        Check.answers("0", p, "seamAt", 0);
        Check.answers("0", p, "seamAt", 1);
    }

    /** A call that only answers changes nothing either. */
    private static void answersChangeNothing() {
        for (Check.Maker maker : new Check.Maker[] {Made::fresh, Made::used, Made::full, Made::great}) {
            Check.changesNothing(maker, "levels");
            Check.changesNothing(maker, "size", 0, 0);
            Check.changesNothing(maker, "at", 1, 0, 0);
            Check.changesNothing(maker, "mean", 1, 0, 0, 0);
            Check.changesNothing(maker, "zoom", 1, 0, 0, 1, 1);
            Check.changesNothing(maker, "turned", 0, 0, 1);
            Check.changesNothing(maker, "byteAt", 0);
            Check.changesNothing(maker, "opened", 0);
            Check.changesNothing(maker, "seamAt", 0);
        }
    }
}
