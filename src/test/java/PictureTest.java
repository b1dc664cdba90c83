/** Promises 1 to 9: a new object, put, change, levels, size, at, mean, zoom, turned. */
public final class PictureTest {
    private static final int MIN = Check.MIN;
    private static final int MAX = Check.MAX;

    public static void main(String[] args) {
        newObject();
        put();
        putChangesOneSample();
        change();
        changeOfOneAndOfAll();
        changeCountsTiles();
        changeCountsTilesAtTheirEdges();
        levels();
        size();
        at();
        atIsSeenOnAllLevels();
        mean();
        meanOfNothingButZero();
        zoom();
        zoomAtTheEnds();
        turned();
        turnedOfOneRow();
        turnedByAnyNumber();
        Check.end("PictureTest");
    }

    /** Promise 1: "A picture of that width and height; an empty buffer." */
    private static void newObject() {
        for (int[] side : new int[][] {{1, 1}, {40, 40}, {1, 40}, {40, 1}, {17, 9}, {0, 41}}) {
            Counted p = new Counted(side[0], side[1]);
            Check.due("sum", p.zoom(0, 0, 0, p.size(0, 0), p.size(0, 1)), 0);
            Check.answers(Check.NO_PLACE, p, "byteAt", 0);
            Check.answers(Check.NO_PLACE, p, "opened", 0);
            Check.answers(Check.NO_PLACE, p, "seamAt", 0);
            Check.answers(Check.NO_STATE, p, "restore", 0, 0);
            Check.due("open", p.open(), 0);
            Check.due("clear", p.clear(), 0);
            Check.due("load", p.load(3), 1);
        }
    }

    /** Promise 2: "A sample of the picture: what it was." */
    private static void put() {
        Counted p = new Counted(3, 2);
        Check.due("put first", p.put(2, 1, 255), 0);
        Check.due("put again", p.put(2, 1, 0), 255);
        Check.due("put third", p.put(2, 1, 9), 0);
        Check.due("put the same", p.put(2, 1, 9), 9);
        Check.due("it is so", p.at(0, 2, 1), 9);
    }

    private static void putChangesOneSample() {
        for (int put = 0; put < 20; put++) {
            Counted p = new Counted(5, 4);
            p.put(put % 5, put / 5, 200);
            for (int k = 0; k < 20; k++) {
                Check.due("after put " + put + " sample " + k, p.at(0, k % 5, k / 5), k == put ? 200 : 0);
            }
        }
    }

    /** Promise 3: "All samples in a part become v" */
    private static void change() {
        Counted p = new Counted(5, 4);
        p.change(0, 0, 5, 4, 1);
        p.change(1, 2, 3, 2, 100);
        for (int k = 0; k < 20; k++) {
            boolean inside = k % 5 >= 1 && k % 5 < 4 && k / 5 >= 2;
            Check.due("changed " + k, p.at(0, k % 5, k / 5), inside ? 100 : 1);
        }
        Check.due("changed above", p.at(3, 0, 0), 31);
    }

    private static void changeOfOneAndOfAll() {
        for (int x = 0; x < 4; x++) {
            for (int w = 1; w <= 4 - x; w++) {
                Counted p = new Counted(4, 3);
                p.change(x, 1, w, 1, 255);
                p.change(x, 1, w, 2, 6);
                for (int k = 0; k < 12; k++) {
                    boolean inside = k % 4 >= x && k % 4 < x + w && k / 4 >= 1;
                    Check.due("part from " + x + ", " + w, p.at(0, k % 4, k / 4), inside ? 6 : 0);
                }
            }
        }
        Counted all = new Counted(40, 40);
        all.change(0, 0, 40, 40, 255);
        Check.due("all", all.zoom(0, 0, 0, 40, 40), 1600 * 255);
        all.change(0, 0, 40, 40, 0);
        Check.due("all 0", all.zoom(0, 0, 0, 40, 40), 0);
    }

    /** Promise 3: "how many tiles, of all levels together, have a sample under which that part lies" */
    private static void changeCountsTiles() {
        Counted p = new Counted(40, 40);
        Check.due("all", p.change(0, 0, 40, 40, 255), 25 + 9 + 4 + 1 + 1 + 1 + 1);
        Check.due("one", p.change(39, 39, 1, 1, 0), 7);
        Check.due("one already so", p.change(39, 39, 1, 1, 0), 7);
        Check.due("over a corner of tiles", p.change(7, 7, 2, 2, 1), 4 + 6);
        Check.due("over a corner of tiles of level 1", p.change(15, 15, 2, 2, 1), 4 + 4 + 5);
        Check.due("over a corner of tiles of level 2", p.change(31, 31, 2, 2, 1), 4 + 4 + 4 + 4);
        Check.due("over an edge of tiles of level 2", p.change(31, 0, 2, 1, 1), 2 + 2 + 2 + 4);
        Check.due("a column", p.change(3, 0, 1, 40, 1), 5 + 3 + 2 + 4);
        Check.due("a row", p.change(0, 39, 40, 1, 1), 5 + 3 + 2 + 4);
        Check.due("a level of one sample", new Counted(1, 1).change(0, 0, 1, 1, 3), 1);
    }

    /** One column more, across the edge of a tile of a level, counts one tile more there. */
    private static void changeCountsTilesAtTheirEdges() {
        for (int edge : new int[] {8, 16, 24, 32}) {
            int levelsWithEdge = edge == 32 ? 3 : edge == 16 ? 2 : 1;
            for (boolean lying : new boolean[] {true, false}) {
                Counted p = new Counted(40, 40);
                Check.due("before " + edge, part(p, lying, edge - 2, 2), 7);
                Check.due("across " + edge, part(p, lying, edge - 1, 2), 7 + levelsWithEdge);
                Check.due("behind " + edge, part(p, lying, edge, 2), 7);
                Check.due("before the next", part(p, lying, edge, 8), 7);
            }
        }
    }

    private static int part(Counted p, boolean lying, int start, int length) {
        return lying ? p.change(start, 5, length, 1, 1) : p.change(5, start, 1, length, 1);
    }

    /** Promise 4. */
    private static void levels() {
        int[][] sideAndLevels = {{1, 1}, {2, 2}, {3, 3}, {4, 3}, {5, 4}, {8, 4}, {9, 5}, {16, 5},
            {17, 6}, {32, 6}, {33, 7}, {40, 7}, {41, 7}, {0, 1}};
        for (int[] row : sideAndLevels) {
            Check.due("levels of width " + row[0], new Counted(row[0], 1).levels(), row[1]);
            Check.due("levels of height " + row[0], new Counted(1, row[0]).levels(), row[1]);
            Check.due("levels of both " + row[0], new Counted(row[0], row[0]).levels(), row[1]);
        }
    }

    /** Promise 5: "A level's columns (axis 0) or rows (1)." */
    private static void size() {
        Counted p = new Counted(37, 6);
        int[] columns = {37, 19, 10, 5, 3, 2, 1};
        int[] rows = {6, 3, 2, 1, 1, 1, 1};
        for (int level = 0; level < 7; level++) {
            Check.due("columns of " + level, p.size(level, 0), columns[level]);
            Check.due("rows of " + level, p.size(level, 1), rows[level]);
        }
    }

    /** Promise 6: "A level's sample." */
    private static void at() {
        Counted p = new Counted(3, 3);
        p.put(0, 0, 1);
        p.put(1, 0, 1);
        Check.due("half goes up", p.at(1, 0, 0), 1);
        p.put(1, 0, 0);
        Check.due("a quarter goes down", p.at(1, 0, 0), 0);
        p.put(2, 2, 255);
        Check.due("the corner", p.at(1, 1, 1), 255);
        Check.due("of nine: 256 / 9", p.at(2, 0, 0), 28);
        p.put(2, 0, 1);
        Check.due("of two, half goes up", p.at(1, 1, 0), 1);
        Check.due("beside it", p.at(1, 0, 1), 0);
    }

    /** What is put, changed or put back is seen on each level at once. */
    private static void atIsSeenOnAllLevels() {
        Counted p = new Counted(2, 2);
        Check.due("at first", p.at(1, 0, 0), 0);
        p.put(1, 1, 255);
        Check.due("after put", p.at(1, 0, 0), 64);
        p.pack(0, 0, 0);
        p.open();
        p.change(0, 0, 2, 2, 255);
        Check.due("after change", p.at(1, 0, 0), 255);
        p.restore(0, 0);
        Check.due("after restore", p.at(1, 0, 0), 64);
    }

    /** Promise 7: "as a fraction that cannot be lessened: part 0 above, 1 below" */
    private static void mean() {
        Counted p = new Counted(6, 5);
        p.change(0, 0, 6, 5, 255);
        fraction(p, 3, 0, 0, 255, 1);
        p.put(5, 4, 0);
        fraction(p, 3, 0, 0, 29 * 255 / 15, 2);
        fraction(p, 1, 2, 2, 255, 2);
        fraction(p, 2, 1, 1, 255, 2);
        fraction(p, 0, 5, 4, 0, 1);
        fraction(p, 0, 4, 4, 255, 1);
        p.put(0, 0, 254);
        fraction(p, 1, 0, 0, 1019, 4);
        Counted big = new Counted(40, 40);
        big.put(39, 39, 1);
        fraction(big, 6, 0, 0, 1, 1600);
        big.put(0, 0, 63);
        fraction(big, 6, 0, 0, 1, 25);
        big.change(0, 0, 40, 40, 255);
        fraction(big, 6, 0, 0, 255, 1);
        big.put(0, 0, 254);
        fraction(big, 6, 0, 0, 1600 * 255 - 1, 1600);
    }

    /** A mean of 0 is 0 / 1: any other fraction can be lessened. */
    private static void meanOfNothingButZero() {
        Counted p = new Counted(40, 39);
        for (int level = 0; level < 7; level++) {
            fraction(p, level, p.size(level, 0) - 1, p.size(level, 1) - 1, 0, 1);
        }
    }

    private static void fraction(Counted p, int level, int x, int y, int above, int below) {
        String what = "mean " + level + " " + x + " " + y;
        Check.due(what + " above", p.mean(level, x, y, 0), above);
        Check.due(what + " below", p.mean(level, x, y, 1), below);
    }

    /** Promise 8: "The sum of a level's samples in a part of it." */
    private static void zoom() {
        Counted p = numbered(5, 4);
        Check.due("zoom all", p.zoom(0, 0, 0, 5, 4), 210);
        Check.due("zoom part", p.zoom(0, 1, 2, 3, 2), 12 + 13 + 14 + 17 + 18 + 19);
        Check.due("zoom one", p.zoom(0, 4, 3, 1, 1), 20);
        // The means are 4, 6, 7.5 and 14, 16, 17.5: what is summed is what at answers.
        Check.due("zoom of rounded samples", p.zoom(1, 0, 0, 3, 2), 4 + 6 + 8 + 14 + 16 + 18);
        Check.due("zoom of a column of these", p.zoom(1, 2, 0, 1, 2), 8 + 18);
        Check.due("zoom top", p.zoom(3, 0, 0, 1, 1), 11);
    }

    private static void zoomAtTheEnds() {
        Counted full = new Counted(40, 40);
        full.change(0, 0, 40, 40, 255);
        for (int level = 0; level < 7; level++) {
            int columns = full.size(level, 0);
            int rows = full.size(level, 1);
            Check.due("zoom most", full.zoom(level, 0, 0, columns, rows), 255 * columns * rows);
            Check.due("zoom last", full.zoom(level, columns - 1, rows - 1, 1, 1), 255);
            Check.due("zoom last row", full.zoom(level, 0, rows - 1, columns, 1), 255 * columns);
            Check.due("zoom last column", full.zoom(level, columns - 1, 0, 1, rows), 255 * rows);
        }
    }

    /** Samples 1, 2, 3 and so on, row by row. */
    private static Counted numbered(int width, int height) {
        Counted p = new Counted(width, height);
        for (int k = 0; k < width * height; k++) {
            p.put(k % width, k / width, k + 1);
        }
        return p;
    }

    /** Promise 9: "turned so many quarters (to the right; any number, also below 0)" */
    private static void turned() {
        turnedIs(3, 2, "1 2 3 / 4 5 6 / ", "4 1 / 5 2 / 6 3 / ", "6 5 4 / 3 2 1 / ", "3 6 / 2 5 / 1 4 / ");
    }

    private static void turnedOfOneRow() {
        turnedIs(1, 1, "1 / ", "1 / ", "1 / ", "1 / ");
        turnedIs(3, 1, "1 2 3 / ", "1 / 2 / 3 / ", "3 2 1 / ", "3 / 2 / 1 / ");
        turnedIs(1, 3, "1 / 2 / 3 / ", "3 2 1 / ", "3 / 2 / 1 / ", "1 2 3 / ");
    }

    private static void turnedIs(int width, int height, String... due) {
        int[][] quarters = {{0, 4, -4, MIN, MAX - 3}, {1, 5, -3, MIN + 1, MAX - 2},
            {2, 6, -2, MIN + 2, MAX - 1}, {3, 7, -1, MIN + 3, MAX}};
        for (int turn = 0; turn < 4; turn++) {
            for (int q : quarters[turn]) {
                int columns = turn % 2 == 0 ? width : height;
                int rows = turn % 2 == 0 ? height : width;
                Counted p = numbered(width, height);
                Check.same("turned by " + q, textOfTurned(p, q, columns, rows), due[turn]);
            }
        }
    }

    private static String textOfTurned(Counted p, int quarters, int columns, int rows) {
        StringBuilder text = new StringBuilder();
        for (int y = 0; y < rows; y++) {
            for (int x = 0; x < columns; x++) {
                text.append(p.turned(x, y, quarters)).append(' ');
            }
            text.append("/ ");
        }
        return text.toString();
    }

    /** Four quarters more or less turn to the same; the corners go round to the right. */
    private static void turnedByAnyNumber() {
        Counted p = new Counted(40, 3);
        p.put(0, 0, 1);
        p.put(39, 0, 2);
        p.put(39, 2, 3);
        p.put(0, 2, 4);
        int[] topLeft = {1, 4, 3, 2};
        for (int q = -9; q <= 9; q++) {
            Check.due("top left of " + q, p.turned(0, 0, q), topLeft[(q + 12) % 4]);
        }
        int[] endColumns = {39, 2};
        for (int q = 0; q < 4; q++) {
            int last = endColumns[q % 2];
            Check.due("top right of " + q, p.turned(last, 0, q), topLeft[(q + 3) % 4]);
            Check.due("bottom left of " + q, p.turned(0, 41 - last, q), topLeft[(q + 1) % 4]);
        }
    }
}
