import java.math.BigInteger;
import java.util.ArrayList;
import java.util.List;

/**
 * The document written a second time, for comparison: as slow and as near to its words as can be, with
 * the library's means, and with no line in common with the class.
 */
public final class Model {
    private final int[][] picture;
    private final int[][] strip;
    private List<Integer> buffer = new ArrayList<>();
    private int[][] openedTile = null;
    private List<Integer> latestSeam = null;

    public Model(int width, int height) {
        picture = new int[clamp(height)][clamp(width)];
        strip = new int[clamp(height)][8];
    }

    private static int clamp(int side) {
        return side < 1 ? 1 : side > 40 ? 40 : side;
    }

    /** The level's samples, each as the list of the picture's samples that lie under it. */
    private List<Integer>[][] level(int level) {
        if (level < 0 || level >= levels()) {
            throw new IndexOutOfBoundsException();
        }
        int step = BigInteger.TWO.pow(level).intValueExact();
        int rows = (int) Math.ceil(picture.length / (double) step);
        int columns = (int) Math.ceil(picture[0].length / (double) step);
        @SuppressWarnings({"unchecked", "rawtypes"})
        List<Integer>[][] lists = new List[rows][columns];
        for (int y = 0; y < picture.length; y++) {
            for (int x = 0; x < picture[0].length; x++) {
                if (lists[y / step][x / step] == null) {
                    lists[y / step][x / step] = new ArrayList<>();
                }
                lists[y / step][x / step].add(picture[y][x]);
            }
        }
        return lists;
    }

    private int[][] samples(int level) {
        List<Integer>[][] lists = level(level);
        int[][] samples = new int[lists.length][lists[0].length];
        for (int y = 0; y < lists.length; y++) {
            for (int x = 0; x < lists[0].length; x++) {
                double exact = lists[y][x].stream().mapToInt(v -> v).sum() / (double) lists[y][x].size();
                samples[y][x] = (int) Math.floor(exact + 0.5);
            }
        }
        return samples;
    }

    private static void place(boolean is) {
        if (!is) {
            throw new IndexOutOfBoundsException();
        }
    }

    private static void argument(boolean is) {
        if (!is) {
            throw new IllegalArgumentException();
        }
    }

    private static boolean in(long k, long length) {
        return 0 <= k && k < length;
    }

    private static int[][] part(int[][] of, long x, long y, long w, long h) {
        place(w >= 1 && h >= 1 && x >= 0 && y >= 0 && x + w <= of[0].length && y + h <= of.length);
        int[][] part = new int[(int) h][(int) w];
        for (int r = 0; r < h; r++) {
            for (int c = 0; c < w; c++) {
                part[r][c] = of[(int) y + r][(int) x + c];
            }
        }
        return part;
    }

    public int put(int x, int y, int v) {
        place(in(x, picture[0].length) && in(y, picture.length));
        argument(in(v, 256));
        int was = picture[y][x];
        picture[y][x] = v;
        return was;
    }

    public int change(int x, int y, int w, int h, int v) {
        part(picture, x, y, w, h);
        argument(in(v, 256));
        for (int r = y; r < y + h; r++) {
            for (int c = x; c < x + w; c++) {
                picture[r][c] = v;
            }
        }
        java.util.Set<String> tiles = new java.util.HashSet<>();
        for (int level = 0; level < levels(); level++) {
            for (int r = y; r < y + h; r++) {
                for (int c = x; c < x + w; c++) {
                    int side = 8 * BigInteger.TWO.pow(level).intValueExact();
                    tiles.add(level + " " + c / side + " " + r / side);
                }
            }
        }
        return tiles.size();
    }

    public int levels() {
        int levels = 1;
        for (double side = Math.max(picture.length, picture[0].length); side > 1; side = Math.ceil(side / 2)) {
            levels++;
        }
        return levels;
    }

    public int size(int level, int axis) {
        place(axis == 0 || axis == 1);
        return axis == 0 ? level(level)[0].length : level(level).length;
    }

    public int at(int level, int x, int y) {
        return part(samples(level), x, y, 1, 1)[0][0];
    }

    public int mean(int level, int x, int y, int part) {
        part(samples(level), x, y, 1, 1);
        place(part == 0 || part == 1);
        List<Integer> under = level(level)[y][x];
        BigInteger above = BigInteger.valueOf(under.stream().mapToInt(v -> v).sum());
        BigInteger below = BigInteger.valueOf(under.size());
        return (part == 0 ? above : below).divide(above.gcd(below)).intValueExact();
    }

    public int zoom(int level, int x, int y, int w, int h) {
        int sum = 0;
        for (int[] row : part(samples(level), x, y, w, h)) {
            for (int v : row) {
                sum += v;
            }
        }
        return sum;
    }

    public int turned(int x, int y, int quarters) {
        int[][] turned = picture;
        long times = ((long) quarters % 4 + 4) % 4;
        for (long t = 0; t < times; t++) {
            int[][] next = new int[turned[0].length][turned.length];
            for (int r = 0; r < turned.length; r++) {
                for (int c = 0; c < turned[0].length; c++) {
                    next[c][turned.length - 1 - r] = turned[r][c];
                }
            }
            turned = next;
        }
        return part(turned, x, y, 1, 1)[0][0];
    }

    private static int[][] tile(int[][] of, int i, int j) {
        long x = 8L * i;
        long y = 8L * j;
        place(in(x, of[0].length) && in(y, of.length));
        return part(of, x, y, Math.min(8, of[0].length - x), Math.min(8, of.length - y));
    }

    static List<Integer> packed(int[][] tile) {
        List<Integer> bytes = new ArrayList<>(List.of(tile[0].length, tile.length));
        for (int r = 0; r < tile.length; r++) {
            BigInteger all = BigInteger.ZERO;
            int bits = 0;
            List<Integer> numbers = new ArrayList<>();
            for (int c = 0; c < tile[0].length; c++) {
                int d = tile[r][c] - (c > 0 ? tile[r][c - 1] : r > 0 ? tile[r - 1][0] : 0);
                numbers.add(d < 0 ? -2 * d - 1 : 2 * d);
                bits = Math.max(bits, BigInteger.valueOf(numbers.get(c)).bitLength());
            }
            for (int c = 0; c < numbers.size(); c++) {
                all = all.add(BigInteger.valueOf(numbers.get(c)).shiftLeft(bits * c));
            }
            bytes.add(bits);
            for (int left = bits * numbers.size(); left > 0; left -= 8) {
                bytes.add(all.and(BigInteger.valueOf(255)).intValueExact());
                all = all.shiftRight(8);
            }
        }
        return withSum(bytes);
    }

    static List<Integer> withSum(List<Integer> body) {
        List<Integer> bytes = new ArrayList<>(body);
        BigInteger s = BigInteger.ZERO;
        for (int b : body) {
            s = s.multiply(BigInteger.valueOf(257)).add(BigInteger.valueOf(b + 1))
                    .mod(BigInteger.valueOf(65521));
        }
        bytes.add(s.intValueExact() % 256);
        bytes.add(s.intValueExact() / 256);
        return bytes;
    }

    public int pack(int level, int i, int j) {
        buffer = packed(tile(samples(level), i, j));
        return buffer.size();
    }

    public int load(int b) {
        if (buffer.size() == 256) {
            throw new IllegalStateException();
        }
        argument(in(b, 256));
        buffer.add(b);
        return buffer.size();
    }

    public int clear() {
        int had = buffer.size();
        buffer = new ArrayList<>();
        return had;
    }

    public int byteAt(int k) {
        place(in(k, buffer.size()));
        return buffer.get(k);
    }

    public int poke(int k, int mask) {
        place(in(k, buffer.size()));
        argument(in(mask, 256) && mask != 0);
        buffer.set(k, buffer.get(k) ^ mask);
        return buffer.get(k);
    }

    /** A row of bytes is a packed tile just if some tile packs into it: read freely, pack, compare. */
    public int open() {
        if (buffer.size() < 2
                || !withSum(buffer.subList(0, buffer.size() - 2)).equals(buffer)) {
            return 0;
        }
        int[][] tile = readFreely();
        if (tile == null || !packed(tile).equals(buffer)) {
            return -1;
        }
        openedTile = tile;
        return tile.length * tile[0].length;
    }

    private int[][] readFreely() {
        int columns = buffer.get(0);
        int rows = buffer.get(1);
        if (columns < 1 || columns > 8 || rows < 1 || rows > 8) {
            return null;
        }
        int[][] tile = new int[rows][columns];
        int at = 2;
        for (int r = 0; r < rows; r++) {
            int bits = at < buffer.size() ? buffer.get(at++) : 0;
            BigInteger all = BigInteger.ZERO;
            int length = (bits * columns + 7) / 8;
            for (int k = 0; k < length; k++) {
                int b = at < buffer.size() ? buffer.get(at++) : 0;
                all = all.add(BigInteger.valueOf(b).shiftLeft(8 * k));
            }
            for (int c = 0; c < columns; c++) {
                int n = all.shiftRight(bits * c).and(BigInteger.ONE.shiftLeft(bits).subtract(BigInteger.ONE))
                        .min(BigInteger.valueOf(100000)).intValueExact();
                int d = n % 2 == 0 ? n / 2 : -(n + 1) / 2;
                tile[r][c] = d + (c > 0 ? tile[r][c - 1] : r > 0 ? tile[r - 1][0] : 0);
                if (!in(tile[r][c], 256)) {
                    return null;
                }
            }
        }
        return tile;
    }

    public int opened(int k) {
        place(openedTile != null && in(k, openedTile.length * openedTile[0].length));
        return openedTile[k / openedTile[0].length][k % openedTile[0].length];
    }

    public boolean restore(int i, int j) {
        int[][] there = tile(picture, i, j);
        if (openedTile == null) {
            throw new IllegalStateException();
        }
        if (there.length != openedTile.length || there[0].length != openedTile[0].length) {
            return false;
        }
        for (int r = 0; r < there.length; r++) {
            System.arraycopy(openedTile[r], 0, picture[8 * j + r], 8 * i, there[0].length);
        }
        return true;
    }

    public int strip(int x, int y, int v) {
        place(in(x, 8) && in(y, strip.length));
        argument(in(v, 256));
        int was = strip[y][x];
        strip[y][x] = v;
        return was;
    }

    /** For each column the best seam down to it is kept whole, as its cost and its columns upwards. */
    public int seam(int overlap) {
        argument(overlap >= 1 && overlap <= 8 && overlap <= picture[0].length);
        List<List<Integer>> best = new ArrayList<>();
        for (int row = 0; row < picture.length; row++) {
            List<List<Integer>> next = new ArrayList<>();
            for (int c = 0; c < overlap; c++) {
                List<Integer> least = null;
                for (int from = c - 1; from <= c + 1; from++) {
                    if (row == 0 ? from == c : from >= 0 && from < overlap) {
                        List<Integer> seam = new ArrayList<>(row == 0 ? List.of(0) : best.get(from));
                        int d = strip[row][c] - picture[row][picture[0].length - overlap + c];
                        seam.set(0, seam.get(0) + d * d);
                        seam.add(1, c);
                        least = lesser(least, seam);
                    }
                }
                next.add(least);
            }
            best = next;
        }
        List<Integer> least = null;
        for (List<Integer> seam : best) {
            least = lesser(least, seam);
        }
        latestSeam = least;
        return least.get(0);
    }

    private static List<Integer> lesser(List<Integer> a, List<Integer> b) {
        for (int k = 0; a != null && k < a.size(); k++) {
            if (!a.get(k).equals(b.get(k))) {
                return a.get(k) < b.get(k) ? a : b;
            }
        }
        return b;
    }

    public int seamAt(int row) {
        place(latestSeam != null && in(row, picture.length));
        return latestSeam.get(latestSeam.size() - 1 - row);
    }
}
