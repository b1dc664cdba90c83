import java.util.Arrays;

/** Promises 18 to 20: strip, seam, seamAt. */
public final class SeamTest {
    private static final int MIN = Integer.MIN_VALUE;
    private static final int MAX = Integer.MAX_VALUE;

    public static void main(String[] args) {
        strip();
        seamByHand();
        seamOfTies();
        seamLiesOverTheEnd();
        seamStays();
        seamRefuses();
        seamAgainstAllSeams();
        seamOfMostCost();
        Check.end("SeamTest");
    }

    private static void strip() {
        TilePyramid p = new TilePyramid(2, 3);
        Check.due("strip first", p.strip(7, 2, 255), 0);
        Check.due("strip again", p.strip(7, 2, 0), 255);
        Check.due("strip elsewhere", p.strip(0, 0, 3), 0);
        Check.due("strip there again", p.strip(0, 0, 5), 3);
        Check.due("the picture is another", p.at(0, 0, 0), 0);
        String before = Check.stateOf(p);
        for (int[] xy : new int[][] {{-1, 0}, {8, 0}, {0, -1}, {0, 3}, {MAX, 0}, {0, MIN}}) {
            Check.noPlace("strip " + xy[0] + " " + xy[1], () -> p.strip(xy[0], xy[1], 1));
            Check.noPlace("strip and no sample", () -> p.strip(xy[0], xy[1], -1));
        }
        for (int v : new int[] {-1, 256, MIN, MAX}) {
            Check.noArgument("strip v " + v, () -> p.strip(0, 0, v));
        }
        Check.same("after refused strips", Check.stateOf(p), before);
    }

    /** The picture is all 0, so that a strip's sample alone makes the difference. */
    private static TilePyramid ofStrip(int width, int[][] rows) {
        TilePyramid p = new TilePyramid(width, rows.length);
        for (int y = 0; y < rows.length; y++) {
            for (int x = 0; x < rows[y].length; x++) {
                p.strip(x, y, rows[y][x]);
            }
        }
        return p;
    }

    private static void path(String what, TilePyramid p, int... due) {
        for (int row = 0; row < due.length; row++) {
            Check.due(what + " row " + row, p.seamAt(row), due[row]);
        }
        Check.noPlace(what + " beyond", () -> p.seamAt(due.length));
        Check.noPlace(what + " before", () -> p.seamAt(-1));
        Check.noPlace(what + " far", () -> p.seamAt(MAX));
        Check.noPlace(what + " far below", () -> p.seamAt(MIN));
    }

    private static void seamByHand() {
        TilePyramid p = ofStrip(4, new int[][] {{9, 9, 9, 1}, {9, 9, 2, 9}, {9, 3, 9, 9}, {1, 9, 9, 0}});
        Check.due("a slant", p.seam(4), 1 + 4 + 9 + 1);
        path("a slant", p, 3, 2, 1, 0);
        Check.due("less of it", p.seam(3), 81 + 4 + 9 + 1);
        path("less of it", p, 1, 2, 1, 0);
        Check.due("one column", p.seam(1), 81 * 3 + 1);
        path("one column", p, 0, 0, 0, 0);
        TilePyramid jump = ofStrip(3, new int[][] {{0, 9, 9}, {20, 20, 0}});
        Check.due("no jump of two", jump.seam(3), 81);
        path("no jump of two", jump, 1, 2);
        // The cheapest place of a row may lie on no least seam.
        TilePyramid far = ofStrip(3, new int[][] {{0, 9, 5}, {9, 9, 0}, {9, 9, 0}});
        Check.due("not the nearest first", far.seam(3), 25);
        path("not the nearest first", far, 2, 2, 2);
    }

    private static void seamOfTies() {
        TilePyramid flat = ofStrip(8, new int[3][8]);
        Check.due("all alike", flat.seam(8), 0);
        path("all alike", flat, 0, 0, 0);
        TilePyramid p = ofStrip(3, new int[][] {{0, 1, 1}, {1, 1, 0}, {1, 0, 1}});
        Check.due("ties", p.seam(3), 1);
        path("ties", p, 0, 0, 1);
        TilePyramid last = ofStrip(2, new int[][] {{0, 1}, {1, 0}});
        Check.due("the last row's own", last.seam(2), 0);
        path("the last row's own", last, 0, 1);
        TilePyramid up = ofStrip(3, new int[][] {{1, 1, 1}, {2, 0, 2}, {2, 0, 2}});
        Check.due("ties at the top", up.seam(3), 1);
        path("ties at the top", up, 0, 1, 1);
        TilePyramid two = ofStrip(4, new int[][] {{0, 9, 9, 0}, {0, 9, 9, 0}});
        Check.due("two alike", two.seam(4), 0);
        path("two alike", two, 0, 0);
    }

    private static void seamLiesOverTheEnd() {
        TilePyramid p = new TilePyramid(10, 2);
        p.change(0, 0, 10, 2, 50);
        p.put(8, 0, 53);
        p.put(9, 1, 20);
        p.strip(0, 0, 54);
        p.strip(1, 0, 60);
        p.strip(0, 1, 60);
        p.strip(1, 1, 18);
        Check.due("over the last two", p.seam(2), 1 + 4);
        path("over the last two", p, 0, 1);
        Check.due("over the last one", p.seam(1), 16 + 1600);
        Check.due("as wide as the picture", new TilePyramid(5, 5).seam(5), 0);
    }

    private static void seamStays() {
        TilePyramid p = ofStrip(3, new int[][] {{0, 9, 9}, {9, 0, 9}});
        p.seam(3);
        path("first", p, 0, 1);
        p.change(0, 0, 3, 2, 9);
        p.strip(2, 0, 9);
        path("after changes", p, 0, 1);
        Check.noArgument("refused", () -> p.seam(4));
        path("after a refused one", p, 0, 1);
        Check.due("anew", p.seam(3), 0);
        path("anew", p, 1, 0);
    }

    private static void seamRefuses() {
        TilePyramid wide = new TilePyramid(40, 2);
        for (int bad : new int[] {0, -1, 9, 40, MIN, MAX}) {
            Check.noArgument("seam " + bad, () -> wide.seam(bad));
            Check.noPlace("no seam yet", () -> wide.seamAt(0));
        }
        TilePyramid narrow = new TilePyramid(3, 2);
        for (int bad : new int[] {0, 4, 8, 9, MIN, MAX}) {
            Check.noArgument("narrow seam " + bad, () -> narrow.seam(bad));
        }
        Check.due("the widest of all", wide.seam(8), 0);
        Check.due("the widest of three", narrow.seam(3), 0);
    }

    private static void seamAgainstAllSeams() {
        long seed = 1;
        for (int run = 0; run < 400; run++) {
            int rows = 1 + run % 5;
            int overlap = 1 + run / 5 % 5;
            int spread = 2 + run % 3;
            int[][] squares = new int[rows][overlap];
            TilePyramid p = new TilePyramid(overlap + run % 4, rows);
            for (int y = 0; y < rows; y++) {
                for (int x = 0; x < overlap; x++) {
                    seed = (seed * 6364136223846793005L + 1442695040888963407L);
                    int a = (int) (seed >>> 40) % spread;
                    int b = (int) (seed >>> 50) % spread;
                    p.strip(x, y, a);
                    p.put(run % 4 + x, y, b);
                    squares[y][x] = (a - b) * (a - b);
                }
            }
            int[] best = leastOfAll(squares, overlap);
            Check.due("run " + run + " cost", p.seam(overlap), best[rows]);
            for (int row = 0; row < rows; row++) {
                Check.due("run " + run + " row " + row, p.seamAt(row), best[row]);
            }
        }
    }

    /** Counts through all rows of columns, the last row slowest, so the first of the least is the one. */
    private static int[] leastOfAll(int[][] squares, int overlap) {
        int rows = squares.length;
        int[] best = null;
        int[] columns = new int[rows + 1];
        long all = Math.round(Math.pow(overlap, rows));
        for (long n = 0; n < all; n++) {
            long rest = n;
            int cost = 0;
            boolean joined = true;
            for (int row = 0; row < rows; row++) {
                columns[row] = (int) (rest % overlap);
                rest /= overlap;
                cost += squares[row][columns[row]];
                joined &= row == 0 || Math.abs(columns[row] - columns[row - 1]) <= 1;
            }
            columns[rows] = cost;
            if (joined && (best == null || cost < best[rows])) {
                best = Arrays.copyOf(columns, rows + 1);
            }
        }
        return best;
    }

    private static void seamOfMostCost() {
        TilePyramid p = new TilePyramid(40, 40);
        p.change(0, 0, 40, 40, 255);
        Check.due("most cost", p.seam(8), 40 * 255 * 255);
        path("most cost", p, new int[40]);
    }
}
