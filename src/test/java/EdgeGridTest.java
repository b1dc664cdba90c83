import java.util.Arrays;

/**
 * Every call with every choice of edge values for its arguments, in several states, on an object and on
 * the model: so each exception meets each other one, and each bound each other bound.
 */
public final class EdgeGridTest {
    private static final int MIN = Check.MIN;
    private static final int MAX = Check.MAX;
    private static final int CALLS = 500;

    private final int width;
    private final int height;
    private final boolean used;
    private Counted object;
    private Model model;
    private int left = 0;

    private EdgeGridTest(int width, int height, boolean used) {
        this.width = width;
        this.height = height;
        this.used = used;
    }

    public static void main(String[] args) {
        for (int[] side : new int[][] {{1, 1}, {3, 2}, {9, 17}, {40, 1}}) {
            new EdgeGridTest(side[0], side[1], false).all();
            new EdgeGridTest(side[0], side[1], true).all();
        }
        Check.end("EdgeGridTest");
    }

    private void all() {
        int[] x = {MIN, -1, 0, width - 1, width, MAX};
        int[] y = {MIN, -1, 0, height - 1, height, MAX};
        int[] w = {MIN, -1, 0, 1, width, width + 1, MAX};
        int[] h = {MIN, -1, 0, 1, height, height + 1, MAX};
        int[] v = {MIN, -1, 0, 255, 256, MAX};
        int levels = new Model(width, height).levels();
        int[] level = {MIN, -1, 0, 1, levels - 1, levels, 32, MAX};
        int[] two = {MIN, -1, 0, 1, 2, MAX};
        int[] tile = {MIN, -1, 0, 1, 2, 3, 5, 1 << 29, MAX};
        int[] quarters = {MIN, -5, -4, -3, -2, -1, 0, 1, 2, 3, 4, MAX};
        int[] halfX = {MIN, -1, 0, (width - 1) / 2, (width + 1) / 2, width - 1, width, MAX};
        int[] halfY = {MIN, -1, 0, (height - 1) / 2, (height + 1) / 2, height - 1, height, MAX};
        int[] k = {MIN, -1, 0, 1, 4, 5, 6, 7, 63, 64, 255, 256, MAX};
        int[] row = {MIN, -1, 0, 1, height - 1, height, height + 1, MAX};
        grid("put", x, y, v);
        grid("strip", new int[] {MIN, -1, 0, 7, 8, MAX}, y, v);
        grid("change", x, y, w, h, v);
        grid("levels");
        grid("size", level, two);
        grid("at", level, halfX, halfY);
        grid("mean", level, halfX, halfY, two);
        grid("zoom", level, x, y, w, h);
        grid("turned", halfX, halfY, quarters);
        grid("turned", y, x, quarters);
        grid("pack", level, tile, tile);
        grid("load", v);
        grid("byteAt", k);
        grid("poke", k, new int[] {MIN, -1, 0, 1, 128, 255, 256, MAX});
        grid("open");
        grid("opened", k);
        grid("restore", tile, tile);
        grid("seam", new int[] {MIN, -1, 0, 1, 2, 3, 4, 7, 8, 9, 10, width, width + 1, MAX});
        grid("seamAt", row);
        grid("clear");
    }

    private void grid(String method, int[]... choices) {
        left = 0;
        int[] arguments = new int[choices.length];
        int[] at = new int[choices.length];
        for (boolean more = true; more; more = step(at, choices)) {
            for (int n = 0; n < choices.length; n++) {
                arguments[n] = choices[n][at[n]];
            }
            both(method, arguments);
        }
    }

    /** The next choice, as a counter goes on; false after the last. */
    private static boolean step(int[] at, int[][] choices) {
        for (int n = 0; n < at.length; n++) {
            at[n]++;
            if (at[n] < choices[n].length) {
                return true;
            }
            at[n] = 0;
        }
        return false;
    }

    private void both(String method, int... arguments) {
        if (left == 0) {
            begin();
        }
        left--;
        String what = width + " by " + height + (used ? " used " : " new ") + method;
        Check.same(what + Arrays.toString(arguments), object.call(method, arguments),
                Counted.answerOf(model, method, arguments));
    }

    private void begin() {
        left = CALLS;
        object = new Counted(width, height);
        model = new Model(width, height);
        if (used) {
            both("change", 0, 0, width, height, 30);
            both("put", width - 1, height - 1, 200);
            both("strip", 0, 0, 40);
            both("pack", 0, 0, 0);
            both("open");
            both("seam", 1);
            both("load", 5);
        }
    }
}
