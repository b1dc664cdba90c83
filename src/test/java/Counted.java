import java.lang.reflect.InvocationTargetException;
import java.util.Arrays;

/**
 * An object under test that counts its calls: after its 512th call the document leaves its answers free,
 * so a test that asks more tests nothing that is promised.
 */
public final class Counted {
    private static final int MOST_CALLS = 512;

    private final TilePyramid object;
    private int calls = 0;

    public Counted(int width, int height) {
        object = new TilePyramid(width, height);
    }

    private TilePyramid next() {
        calls++;
        if (calls == MOST_CALLS + 1) {
            Check.fault("a test asks an object more than " + MOST_CALLS + " times");
            new Throwable().printStackTrace(System.out);
        }
        return object;
    }

    /** The answer as a text, or the name of what was thrown: its very class, not one below it. */
    String call(String method, int... arguments) {
        return answerOf(this, method, arguments);
    }

    static String answerOf(Object of, String method, int... arguments) {
        Class<?>[] types = new Class<?>[arguments.length];
        Arrays.fill(types, int.class);
        Object[] boxed = Arrays.stream(arguments).boxed().toArray();
        try {
            return String.valueOf(of.getClass().getMethod(method, types).invoke(of, boxed));
        } catch (InvocationTargetException e) {
            return e.getCause().getClass().getSimpleName();
        } catch (ReflectiveOperationException e) {
            throw new AssertionError(method + Arrays.toString(arguments), e);
        }
    }

    public int put(int x, int y, int v) {
        return next().put(x, y, v);
    }

    public int change(int x, int y, int w, int h, int v) {
        return next().change(x, y, w, h, v);
    }

    public int levels() {
        return next().levels();
    }

    public int size(int level, int axis) {
        return next().size(level, axis);
    }

    public int at(int level, int x, int y) {
        return next().at(level, x, y);
    }

    public int mean(int level, int x, int y, int part) {
        return next().mean(level, x, y, part);
    }

    public int zoom(int level, int x, int y, int w, int h) {
        return next().zoom(level, x, y, w, h);
    }

    public int turned(int x, int y, int quarters) {
        return next().turned(x, y, quarters);
    }

    public int pack(int level, int i, int j) {
        return next().pack(level, i, j);
    }

    public int load(int b) {
        return next().load(b);
    }

    public int clear() {
        return next().clear();
    }

    public int byteAt(int k) {
        return next().byteAt(k);
    }

    public int poke(int k, int mask) {
        return next().poke(k, mask);
    }

    public int open() {
        return next().open();
    }

    public int opened(int k) {
        return next().opened(k);
    }

    public boolean restore(int i, int j) {
        return next().restore(i, j);
    }

    public int strip(int x, int y, int v) {
        return next().strip(x, y, v);
    }

    public int seam(int overlap) {
        return next().seam(overlap);
    }

    public int seamAt(int row) {
        return next().seamAt(row);
    }
}
