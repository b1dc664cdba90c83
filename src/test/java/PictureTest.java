/** Promises 1 to 9: a new object, put, change, levels, size, at, mean, zoom, turned. */
public final class PictureTest {
    private static final int MIN = Integer.MIN_VALUE;
    private static final int MAX = Integer.MAX_VALUE;

    public static void main(String[] args) {
        newObject();
        put();
        change();
        changeCountsTiles();
        changeRefuses();
        levelsAndSize();
        at();
        mean();
        zoom();
        turned();
        Check.end("PictureTest");
    }

    private static void newObject() {
        int[][] givenAndDue = {{1, 1, 1, 1}, {40, 40, 40, 40}, {0, 41, 1, 40}, {MIN, MAX, 1, 40},
            {MAX, MIN, 40, 1}, {-1, 0, 1, 1}, {17, 9, 17, 9}};
        for (int[] row : givenAndDue) {
            TilePyramid p = new TilePyramid(row[0], row[1]);
            String what = "new " + row[0] + " " + row[1];
            Check.due(what + " width", p.size(0, 0), row[2]);
            Check.due(what + " height", p.size(0, 1), row[3]);
            Check.due(what + " sum", p.zoom(0, 0, 0, row[2], row[3]), 0);
            Check.noPlace(what + " byteAt(0)", () -> p.byteAt(0));
            Check.noPlace(what + " opened(0)", () -> p.opened(0));
            Check.noPlace(what + " seamAt(0)", () -> p.seamAt(0));
            Check.noState(what + " restore", () -> p.restore(0, 0) ? 1 : 0);
            Check.due(what + " clear", p.clear(), 0);
            Check.due(what + " strip", p.strip(7, row[3] - 1, 1), 0);
        }
    }

    private static void put() {
        TilePyramid p = new TilePyramid(3, 2);
        Check.due("put first", p.put(2, 1, 255), 0);
        Check.due("put again", p.put(2, 1, 0), 255);
        Check.due("put third", p.put(2, 1, 9), 0);
        Check.due("put elsewhere", p.put(0, 0, 4), 0);
        String before = Check.stateOf(p);
        int[][] nowhere = {{-1, 0}, {0, -1}, {3, 0}, {0, 2}, {MIN, 0}, {0, MAX}, {2, MIN}, {MAX, 1}};
        for (int[] xy : nowhere) {
            Check.noPlace("put " + xy[0] + " " + xy[1], () -> p.put(xy[0], xy[1], 1));
            Check.noPlace("put and no sample", () -> p.put(xy[0], xy[1], 256));
        }
        for (int v : new int[] {-1, 256, MIN, MAX}) {
            Check.noArgument("put v " + v, () -> p.put(0, 0, v));
        }
        Check.same("after refused puts", Check.stateOf(p), before);
    }

    private static void change() {
        TilePyramid p = new TilePyramid(5, 4);
        p.change(0, 0, 5, 4, 1);
        p.change(1, 2, 3, 2, 100);
        for (int y = 0; y < 4; y++) {
            for (int x = 0; x < 5; x++) {
                boolean inside = x >= 1 && x < 4 && y >= 2;
                Check.due("changed " + x + " " + y, p.at(0, x, y), inside ? 100 : 1);
            }
        }
        Check.due("changed above", p.at(3, 0, 0), 31);
    }

    private static void changeCountsTiles() {
        TilePyramid p = new TilePyramid(40, 40);
        Check.due("all", p.change(0, 0, 40, 40, 255), 25 + 9 + 4 + 1 + 1 + 1 + 1);
        Check.due("one", p.change(39, 39, 1, 1, 0), 7);
        Check.due("one already so", p.change(39, 39, 1, 1, 0), 7);
        Check.due("over a corner of tiles", p.change(7, 7, 2, 2, 1), 4 + 6);
        Check.due("over a corner of tiles of level 1", p.change(15, 15, 2, 2, 1), 4 + 4 + 5);
        Check.due("over an edge of tiles of level 2", p.change(31, 0, 2, 1, 1), 2 + 2 + 2 + 4);
        Check.due("a column", p.change(3, 0, 1, 40, 1), 5 + 3 + 2 + 4);
        Check.due("a level of one sample", new TilePyramid(1, 1).change(0, 0, 1, 1, 3), 1);
    }

    private static void changeRefuses() {
        TilePyramid p = new TilePyramid(4, 3);
        p.change(0, 0, 4, 3, 7);
        String before = Check.stateOf(p);
        int[][] parts = {{-1, 0, 2, 1}, {0, -1, 1, 2}, {4, 0, 1, 1}, {0, 3, 1, 1}, {3, 0, 2, 1},
            {0, 2, 1, 2}, {0, 0, 0, 1}, {0, 0, 1, 0}, {0, 0, -1, 1}, {0, 0, 1, MIN}, {1, 0, MAX, 1},
            {0, 1, 1, MAX}, {MAX, 0, MAX, 1}, {MIN, 0, MIN, 1}, {0, 0, 5, 1}, {0, 0, 1, 4},
            {1, 1, MIN, MIN}};
        for (int[] r : parts) {
            String what = "change " + r[0] + " " + r[1] + " " + r[2] + " " + r[3];
            Check.noPlace(what, () -> p.change(r[0], r[1], r[2], r[3], 1));
            Check.noPlace(what + " no sample", () -> p.change(r[0], r[1], r[2], r[3], -1));
        }
        for (int v : new int[] {-1, 256, MIN, MAX}) {
            Check.noArgument("change v " + v, () -> p.change(0, 0, 4, 3, v));
        }
        Check.same("after refused changes", Check.stateOf(p), before);
    }

    private static void levelsAndSize() {
        int[][] sideAndLevels = {{1, 1}, {2, 2}, {3, 3}, {4, 3}, {5, 4}, {8, 4}, {9, 5}, {16, 5},
            {17, 6}, {32, 6}, {33, 7}, {40, 7}};
        for (int[] row : sideAndLevels) {
            Check.due("levels of width " + row[0], new TilePyramid(row[0], 1).levels(), row[1]);
            Check.due("levels of height " + row[0], new TilePyramid(1, row[0]).levels(), row[1]);
            Check.due("levels of both " + row[0], new TilePyramid(row[0], row[0]).levels(), row[1]);
        }
        TilePyramid p = new TilePyramid(37, 6);
        int[] columns = {37, 19, 10, 5, 3, 2, 1};
        int[] rows = {6, 3, 2, 1, 1, 1, 1};
        for (int level = 0; level < 7; level++) {
            Check.due("columns of " + level, p.size(level, 0), columns[level]);
            Check.due("rows of " + level, p.size(level, 1), rows[level]);
        }
        for (int bad : new int[] {-1, 7, 32, MIN, MAX}) {
            Check.noPlace("size level " + bad, () -> p.size(bad, 0));
        }
        for (int bad : new int[] {-1, 2, MIN, MAX}) {
            Check.noPlace("size axis " + bad, () -> p.size(0, bad));
        }
    }

    private static void at() {
        TilePyramid p = new TilePyramid(3, 3);
        p.put(0, 0, 1);
        p.put(1, 0, 1);
        Check.due("half goes up", p.at(1, 0, 0), 1);
        p.put(1, 0, 0);
        Check.due("a quarter goes down", p.at(1, 0, 0), 0);
        p.put(2, 2, 255);
        Check.due("the corner", p.at(1, 1, 1), 255);
        Check.due("of nine: 256 / 9", p.at(2, 0, 0), 28);
        p.put(2, 0, 1);
        p.put(2, 1, 0);
        Check.due("of two, half goes up", p.at(1, 1, 0), 1);
        // A mean of rounded means would be 1 here.
        TilePyramid exact = new TilePyramid(4, 4);
        exact.change(0, 0, 2, 1, 1);
        exact.change(2, 2, 2, 1, 1);
        Check.due("exact over two levels", exact.at(2, 0, 0), 0);
        for (int[] r : new int[][] {{-1, 0, 0}, {3, 0, 0}, {0, 3, 0}, {0, 0, 3}, {1, 2, 0}, {1, 0, 2},
            {2, 1, 0}, {2, 0, 1}, {0, -1, 0}, {0, 0, -1}, {32, 0, 0}, {MAX, 0, 0}, {MIN, 0, 0},
            {0, MAX, 0}, {0, 0, MIN}, {1, MIN, 1}}) {
            Check.noPlace("at " + r[0] + " " + r[1] + " " + r[2], () -> p.at(r[0], r[1], r[2]));
            Check.noPlace("mean at such", () -> p.mean(r[0], r[1], r[2], 0));
        }
    }

    private static void mean() {
        TilePyramid p = new TilePyramid(6, 5);
        fraction(p, 0, 0, 0, 0, 1);
        fraction(p, 3, 0, 0, 0, 1);
        p.change(0, 0, 6, 5, 255);
        fraction(p, 3, 0, 0, 255, 1);
        p.put(5, 4, 0);
        fraction(p, 3, 0, 0, 29 * 255 / 15, 2);
        fraction(p, 1, 2, 2, 255, 2);
        fraction(p, 2, 1, 1, 255, 2);
        fraction(p, 0, 5, 4, 0, 1);
        fraction(p, 0, 4, 4, 255, 1);
        p.put(0, 0, 254);
        fraction(p, 1, 0, 0, 1019, 4);
        TilePyramid big = new TilePyramid(40, 40);
        big.put(39, 39, 1);
        fraction(big, 6, 0, 0, 1, 1600);
        big.put(0, 0, 63);
        fraction(big, 6, 0, 0, 1, 25);
        for (int part : new int[] {-1, 2, MIN, MAX}) {
            Check.noPlace("mean part " + part, () -> p.mean(0, 0, 0, part));
        }
    }

    private static void fraction(TilePyramid p, int level, int x, int y, int above, int below) {
        String what = "mean " + level + " " + x + " " + y;
        Check.due(what + " above", p.mean(level, x, y, 0), above);
        Check.due(what + " below", p.mean(level, x, y, 1), below);
    }

    private static void zoom() {
        TilePyramid p = new TilePyramid(5, 4);
        int v = 1;
        for (int y = 0; y < 4; y++) {
            for (int x = 0; x < 5; x++) {
                p.put(x, y, v++);
            }
        }
        Check.due("zoom all", p.zoom(0, 0, 0, 5, 4), 210);
        Check.due("zoom part", p.zoom(0, 1, 2, 3, 2), 12 + 13 + 14 + 17 + 18 + 19);
        Check.due("zoom one", p.zoom(0, 4, 3, 1, 1), 20);
        // The means are 4, 6, 7.5 and 14, 16, 17.5: what is summed is what at answers.
        Check.due("zoom of rounded samples", p.zoom(1, 0, 0, 3, 2), 4 + 6 + 8 + 14 + 16 + 18);
        Check.due("zoom of a column of these", p.zoom(1, 2, 0, 1, 2), 8 + 18);
        Check.due("zoom top", p.zoom(3, 0, 0, 1, 1), 11);
        TilePyramid full = new TilePyramid(40, 40);
        full.change(0, 0, 40, 40, 255);
        Check.due("zoom most", full.zoom(0, 0, 0, 40, 40), 408000);
        for (int[] r : new int[][] {{-1, 0, 0, 1, 1}, {4, 0, 0, 1, 1}, {0, 0, 0, 6, 1}, {0, 0, 0, 1, 5},
            {0, 0, 0, 0, 1}, {0, 0, 0, 1, 0}, {0, 5, 0, 1, 1}, {0, 0, 4, 1, 1}, {0, -1, 0, 2, 1},
            {0, 0, -1, 1, 2}, {1, 0, 0, 4, 1}, {1, 0, 0, 1, 3}, {1, 2, 0, 2, 1}, {0, 1, 0, MAX, 1},
            {0, 0, 1, 1, MAX}, {0, 0, 0, MIN, MIN}, {MAX, 0, 0, 1, 1}, {MIN, 0, 0, 1, 1},
            {0, MAX, MAX, MAX, MAX}}) {
            Check.noPlace("zoom " + r[0] + " " + r[1] + " " + r[2] + " " + r[3] + " " + r[4],
                    () -> p.zoom(r[0], r[1], r[2], r[3], r[4]));
        }
    }

    private static void turned() {
        TilePyramid p = new TilePyramid(3, 2);
        for (int k = 0; k < 6; k++) {
            p.put(k % 3, k / 3, k + 1);
        }
        String[] due = {"1 2 3 / 4 5 6 / ", "4 1 / 5 2 / 6 3 / ", "6 5 4 / 3 2 1 / ", "3 6 / 2 5 / 1 4 / "};
        int[][] quarters = {{0, 4, -4, MIN, MAX - 3}, {1, 5, -3, MIN + 1, MAX - 2},
            {2, 6, -2, MIN + 2, MAX - 1}, {3, 7, -1, -5, MAX}};
        for (int turn = 0; turn < 4; turn++) {
            for (int q : quarters[turn]) {
                int columns = turn % 2 == 0 ? 3 : 2;
                Check.same("turned by " + q, textOfTurned(p, q, columns, 5 - columns), due[turn]);
                int rows = 5 - columns;
                Check.noPlace("turned x", () -> p.turned(columns, 0, q));
                Check.noPlace("turned y", () -> p.turned(0, rows, q));
                Check.noPlace("turned x below", () -> p.turned(-1, 0, q));
                Check.noPlace("turned y below", () -> p.turned(0, -1, q));
                Check.noPlace("turned far", () -> p.turned(MAX, MIN, q));
            }
        }
    }

    private static String textOfTurned(TilePyramid p, int quarters, int columns, int rows) {
        StringBuilder text = new StringBuilder();
        for (int y = 0; y < rows; y++) {
            for (int x = 0; x < columns; x++) {
                text.append(p.turned(x, y, quarters)).append(' ');
            }
            text.append("/ ");
        }
        return text.toString();
    }
}
