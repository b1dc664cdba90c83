import java.util.Arrays;

/** Promises 18 to 20: strip, seam, seamAt. */
public final class SeamTest {
    public static void main(String[] args) {
        strip();
        stripChangesOneSample();
        seamByHand();
        seamGoesAtMostOneAside();
        seamOfTies();
        seamOfTiesFromTheLastRowUp();
        seamLiesOverTheEnd();
        seamOfOneRowOrColumn();
        seamOfEachOverlap();
        seamOfMostCost();
        seamAtIsOfTheLatest();
        seamStaysWhenRefused();
        seamChangesNothingElse();
        seamAgainstAllSeams();
        Check.end("SeamTest");
    }

    /** Promise 18: "A sample of the strip: what it was." */
    private static void strip() {
        Counted p = new Counted(2, 3);
        Check.due("strip first", p.strip(7, 2, 255), 0);
        Check.due("strip again", p.strip(7, 2, 0), 255);
        Check.due("strip elsewhere", p.strip(0, 0, 3), 0);
        Check.due("strip there again", p.strip(0, 0, 5), 3);
        Check.due("the same", p.strip(0, 0, 5), 5);
        Check.due("the picture is another", p.at(0, 0, 0), 0);
        p.put(1, 2, 77);
        Check.due("and the strip too", p.strip(1, 2, 0), 0);
    }

    private static void stripChangesOneSample() {
        for (int changed = 0; changed < 24; changed++) {
            Counted p = new Counted(2, 3);
            p.strip(changed % 8, changed / 8, 200);
            for (int k = 0; k < 24; k++) {
                Check.due("strip " + changed + ", then " + k, p.strip(k % 8, k / 8, 1), k == changed ? 200 : 0);
            }
        }
    }

    /** The picture is all 0, so that a strip's sample alone makes the difference. */
    private static Counted ofStrip(int width, int[][] rows) {
        Counted p = new Counted(width, rows.length);
        for (int y = 0; y < rows.length; y++) {
            for (int x = 0; x < rows[y].length; x++) {
                p.strip(x, y, rows[y][x]);
            }
        }
        return p;
    }

    private static void path(String what, Counted p, int... due) {
        for (int row = 0; row < due.length; row++) {
            Check.due(what + " row " + row, p.seamAt(row), due[row]);
        }
        Check.answers(Check.NO_PLACE, p, "seamAt", due.length);
        Check.answers(Check.NO_PLACE, p, "seamAt", -1);
    }

    /** Promise 19: "its cost is the sum of the squares of the differences of both pictures' samples" */
    private static void seamByHand() {
        int[][] slant = {{9, 9, 9, 1}, {9, 9, 2, 9}, {9, 3, 9, 9}, {1, 9, 9, 0}};
        Counted p = ofStrip(4, slant);
        Check.due("a slant", p.seam(4), 1 + 4 + 9 + 1);
        path("a slant", p, 3, 2, 1, 0);
        Check.due("less of it", p.seam(3), 81 + 4 + 9 + 1);
        path("less of it", p, 1, 2, 1, 0);
        Check.due("one column", p.seam(1), 81 * 3 + 1);
        path("one column", p, 0, 0, 0, 0);
    }

    /** "from row to row at most one to the left or right" */
    private static void seamGoesAtMostOneAside() {
        Counted right = ofStrip(3, new int[][] {{0, 9, 9}, {20, 20, 0}});
        Check.due("no jump of two to the right", right.seam(3), 81);
        path("no jump of two to the right", right, 1, 2);
        Counted left = ofStrip(3, new int[][] {{10, 9, 0}, {0, 20, 20}});
        Check.due("no jump of two to the left", left.seam(3), 81);
        path("no jump of two to the left", left, 1, 0);
        // The cheapest place of a row may lie on no least seam.
        Counted far = ofStrip(3, new int[][] {{0, 9, 5}, {9, 9, 0}, {9, 9, 0}});
        Check.due("not the nearest first", far.seam(3), 25);
        path("not the nearest first", far, 2, 2, 2);
        Counted there = ofStrip(8, new int[][] {{0, 9, 9, 9, 9, 9, 9, 9}, {9, 0, 9, 9, 9, 9, 9, 9},
            {9, 9, 0, 9, 9, 9, 9, 9}, {9, 9, 9, 0, 9, 9, 9, 9}, {9, 9, 9, 9, 0, 9, 9, 9},
            {9, 9, 9, 9, 9, 0, 9, 9}, {9, 9, 9, 9, 9, 9, 0, 9}, {9, 9, 9, 9, 9, 9, 9, 0}});
        Check.due("from side to side", there.seam(8), 0);
        path("from side to side", there, 0, 1, 2, 3, 4, 5, 6, 7);
        // Beyond the last column lies nothing, though the strip goes on there.
        Check.due("not beyond the overlap", there.seam(4), 4 * 81);
        path("not beyond the overlap", there, 0, 1, 2, 3, 2, 1, 0, 0);
    }

    /** "Of such seams the one whose column in the last row is the lowest" */
    private static void seamOfTies() {
        Counted flat = ofStrip(8, new int[3][8]);
        Check.due("all alike", flat.seam(8), 0);
        path("all alike", flat, 0, 0, 0);
        Counted p = ofStrip(3, new int[][] {{0, 1, 1}, {1, 1, 0}, {1, 0, 1}});
        Check.due("ties", p.seam(3), 1);
        path("ties", p, 0, 0, 1);
        Counted last = ofStrip(2, new int[][] {{0, 1}, {1, 0}});
        Check.due("the last row's own", last.seam(2), 0);
        path("the last row's own", last, 0, 1);
        Counted two = ofStrip(4, new int[][] {{0, 9, 9, 0}, {0, 9, 9, 0}});
        Check.due("two alike", two.seam(4), 0);
        path("two alike", two, 0, 0);
    }

    /** "then in the row above, and so on up" */
    private static void seamOfTiesFromTheLastRowUp() {
        Counted up = ofStrip(3, new int[][] {{1, 1, 1}, {2, 0, 2}, {2, 0, 2}});
        Check.due("ties at the top", up.seam(3), 1);
        path("ties at the top", up, 0, 1, 1);
        Counted crossed = ofStrip(5, new int[][] {{0, 9, 9, 9, 0}, {9, 0, 9, 0, 9}, {9, 9, 0, 9, 9},
            {9, 0, 9, 0, 9}});
        Check.due("crossed", crossed.seam(5), 0);
        path("crossed", crossed, 0, 1, 2, 1);
        Counted aside = ofStrip(4, new int[][] {{0, 9, 9, 0}, {0, 9, 9, 0}, {9, 0, 0, 9}, {0, 9, 9, 9}});
        Check.due("aside", aside.seam(4), 0);
        path("aside", aside, 0, 0, 1, 0);
        Counted choice = ofStrip(3, new int[][] {{9, 0, 9}, {0, 9, 0}, {9, 0, 9}});
        Check.due("choice", choice.seam(3), 0);
        path("choice", choice, 1, 0, 1);
        Counted both = ofStrip(4, new int[][] {{0, 9, 0, 9}, {9, 3, 9, 3}, {9, 9, 0, 9}});
        Check.due("both", both.seam(4), 9);
        path("both", both, 0, 1, 2);
        Counted lowestLast = ofStrip(3, new int[][] {{9, 9, 0}, {9, 0, 9}, {0, 9, 0}});
        Check.due("lowest last", lowestLast.seam(3), 0);
        path("lowest last", lowestLast, 2, 1, 0);
    }

    /** "The strip's first columns, so many, lie over the picture's last ones." */
    private static void seamLiesOverTheEnd() {
        Counted p = new Counted(10, 2);
        p.change(0, 0, 10, 2, 50);
        p.put(8, 0, 53);
        p.put(9, 1, 20);
        p.strip(0, 0, 54);
        p.strip(1, 0, 60);
        p.strip(0, 1, 60);
        p.strip(1, 1, 18);
        Check.due("over the last two", p.seam(2), 1 + 4);
        path("over the last two", p, 0, 1);
        Check.due("over the last one", p.seam(1), 16 + 1600);
        path("over the last one", p, 0, 0);
    }

    private static void seamOfOneRowOrColumn() {
        Counted one = new Counted(1, 1);
        one.put(0, 0, 255);
        Check.due("one sample", one.seam(1), 255 * 255);
        path("one sample", one, 0);
        Counted row = ofStrip(4, new int[][] {{3, 2, 2, 1}});
        Check.due("one row", row.seam(4), 1);
        path("one row", row, 3);
        Check.due("less of one row", row.seam(3), 4);
        path("less of one row", row, 1);
        Counted column = new Counted(1, 40);
        for (int y = 0; y < 40; y++) {
            column.put(0, y, y);
        }
        Check.due("one column", column.seam(1), 39 * 40 * 79 / 6);
        path("one column", column, new int[40]);
    }

    /** The last of 1 .. 8 columns is the only cheap one: it lies over the picture's last column. */
    private static void seamOfEachOverlap() {
        for (int width = 1; width <= 12; width++) {
            for (int overlap = 1; overlap <= Math.min(8, width); overlap++) {
                Counted p = new Counted(width, 2);
                p.change(0, 0, width, 2, 100);
                p.strip(overlap - 1, 0, 99);
                p.strip(overlap - 1, 1, 102);
                if (overlap < 8) {
                    p.strip(overlap, 0, 100);
                    p.strip(overlap, 1, 100);
                }
                Check.due(overlap + " of " + width, p.seam(overlap), 1 + 4);
                path(overlap + " of " + width, p, overlap - 1, overlap - 1);
            }
        }
    }

    private static void seamOfMostCost() {
        for (int v : new int[] {0, 255}) {
            Counted p = new Counted(40, 40);
            p.change(0, 0, 40, 40, 255 - v);
            for (int k = 0; k < 320; k++) {
                p.strip(k % 8, k / 8, v);
            }
            Check.due("most cost", p.seam(8), 40 * 255 * 255);
            path("most cost", p, new int[40]);
        }
    }

    /** Promise 20: "The column of the latest seam in a row": it stays when the pictures change. */
    private static void seamAtIsOfTheLatest() {
        Counted p = ofStrip(3, new int[][] {{0, 9, 9}, {9, 0, 9}});
        p.seam(3);
        path("first", p, 0, 1);
        p.change(0, 0, 3, 2, 9);
        p.strip(2, 0, 9);
        path("after changes", p, 0, 1);
        Check.due("anew", p.seam(3), 0);
        path("anew", p, 1, 0);
        p.seam(1);
        path("of one column", p, 0, 0);
    }

    private static void seamStaysWhenRefused() {
        Counted none = new Counted(3, 2);
        Check.answers(Check.NO_PLACE, none, "seamAt", 0);
        Check.answers(Check.NO_ARGUMENT, none, "seam", 0);
        Check.answers(Check.NO_ARGUMENT, none, "seam", 4);
        Check.answers(Check.NO_ARGUMENT, none, "seam", 9);
        Check.answers(Check.NO_PLACE, none, "seamAt", 0);
        Counted p = ofStrip(3, new int[][] {{0, 9, 9}, {9, 0, 9}});
        p.seam(3);
        p.change(0, 0, 3, 2, 9);
        Check.answers(Check.NO_ARGUMENT, p, "seam", 0);
        Check.answers(Check.NO_ARGUMENT, p, "seam", 4);
        path("after refused ones", p, 0, 1);
    }

    private static void seamChangesNothingElse() {
        Check.Maker before = () -> {
            Counted p = Made.used();
            p.seam(2);
            return p;
        };
        Check.changesNothing(before, "seam", 2);
        Check.due("the strip's", before.make().strip(7, 1, 0), 115);
        Check.due("the picture's", before.make().at(0, 2, 1), 60);
    }

    private static void seamAgainstAllSeams() {
        long seed = 1;
        for (int run = 0; run < 400; run++) {
            int rows = 1 + run % 5;
            int overlap = 1 + run / 5 % 5;
            int spread = 2 + run % 3;
            int[][] squares = new int[rows][overlap];
            Counted p = new Counted(overlap + run % 4, rows);
            for (int y = 0; y < rows; y++) {
                for (int x = 0; x < overlap; x++) {
                    seed = (seed * 6364136223846793005L + 1442695040888963407L);
                    int a = (int) (seed >>> 40) % spread;
                    int b = (int) (seed >>> 50) % spread;
                    p.strip(x, y, a);
                    p.put(run % 4 + x, y, b);
                    squares[y][x] = (a - b) * (a - b);
                }
            }
            int[] best = leastOfAll(squares, overlap);
            Check.due("run " + run + " cost", p.seam(overlap), best[rows]);
            for (int row = 0; row < rows; row++) {
                Check.due("run " + run + " row " + row, p.seamAt(row), best[row]);
            }
        }
    }

    /** Counts through all rows of columns, the last row slowest, so the first of the least is the one. */
    private static int[] leastOfAll(int[][] squares, int overlap) {
        int rows = squares.length;
        int[] best = null;
        int[] columns = new int[rows + 1];
        long all = Math.round(Math.pow(overlap, rows));
        for (long n = 0; n < all; n++) {
            long rest = n;
            int cost = 0;
            boolean joined = true;
            for (int row = 0; row < rows; row++) {
                columns[row] = (int) (rest % overlap);
                rest /= overlap;
                cost += squares[row][columns[row]];
                joined &= row == 0 || Math.abs(columns[row] - columns[row - 1]) <= 1;
            }
            columns[rows] = cost;
            if (joined && (best == null || cost < best[rows])) {
                best = Arrays.copyOf(columns, rows + 1);
            }
        }
        return best;
    }
}
