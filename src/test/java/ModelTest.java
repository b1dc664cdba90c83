import java.lang.reflect.Method;
import java.lang.reflect.Modifier;
import java.util.ArrayList;
import java.util.Arrays;
import java.util.Comparator;
import java.util.List;
import java.util.Map;
import java.util.Random;
import java.util.TreeMap;

/** Runs of calls, drawn by a fixed seed, on an object and on the model: all answers are the same. */
public final class ModelTest {
    private static final int RUNS = 300;
    private static final int CALLS = 512;
    private static final int[] FAR = {Integer.MIN_VALUE, Integer.MIN_VALUE + 1, -256, -8, -2, -1, 0, 1, 7, 8,
        9, 31, 32, 33, 39, 40, 41, 63, 64, 255, 256, 1 << 28, 1 << 29, Integer.MAX_VALUE - 1,
        Integer.MAX_VALUE};

    private final Random random;
    private final TilePyramid object;
    private final Model model;
    private final int width;
    private final int height;
    private final String name;
    private int calls = 0;

    private static final Map<String, Integer> SEEN = new TreeMap<>();
    private static final List<Method> METHODS = new ArrayList<>();

    private ModelTest(int run) {
        random = new Random(run);
        int givenWidth = side();
        int givenHeight = side();
        object = new TilePyramid(givenWidth, givenHeight);
        model = new Model(givenWidth, givenHeight);
        width = Math.max(1, Math.min(40, givenWidth));
        height = Math.max(1, Math.min(40, givenHeight));
        name = "run " + run + " (" + givenWidth + ", " + givenHeight + ")";
    }

    public static void main(String[] args) {
        for (Method m : TilePyramid.class.getDeclaredMethods()) {
            if (Modifier.isPublic(m.getModifiers())) {
                METHODS.add(m);
            }
        }
        METHODS.sort(Comparator.comparing(Method::getName));
        for (int run = 0; run < RUNS; run++) {
            new ModelTest(run).play();
        }
        everyAnswerWasSeen();
        Check.end("ModelTest");
    }

    /** The runs are of no use where they do not come: each exception, and each kind of opening. */
    private static void everyAnswerWasSeen() {
        for (Method m : METHODS) {
            for (Class<?> kind : m.getExceptionTypes()) {
                if (!SEEN.containsKey(m.getName() + " " + kind.getSimpleName())) {
                    Check.fault(m.getName() + " never threw " + kind.getSimpleName());
                }
            }
            if (!SEEN.containsKey(m.getName() + " answer")) {
                Check.fault(m.getName() + " never answered");
            }
        }
        for (String due : List.of("open NONE", "open 0", "open tile", "restore true", "restore false")) {
            if (!SEEN.containsKey(due)) {
                Check.fault(due + " was never seen");
            }
        }
    }

    private void play() {
        while (calls < CALLS) {
            int kind = random.nextInt(40);
            if (kind == 0 && calls + 100 < CALLS) {
                forge();
            } else if (kind == 1 && calls + 60 < CALLS) {
                scatter();
            } else if (kind == 2 && calls + 45 < CALLS) {
                seamWhole();
            } else if (kind < 6) {
                both("pack", level(), random.nextInt(5), random.nextInt(5));
                both("open");
            } else if (kind == 7 && random.nextInt(10) == 0 && calls + 270 < CALLS) {
                overfill();
            } else {
                any();
            }
        }
    }

    private void any() {
        Method m = METHODS.get(random.nextInt(METHODS.size()));
        boolean far = random.nextInt(6) == 0;
        switch (m.getName()) {
            case "put", "strip" -> both(m.getName(), x(far), y(far), sample());
            case "change" -> both("change", x(far), y(far), length(far), length(far), sample());
            case "zoom" -> both("zoom", level(), x(far), y(far), length(far), length(far));
            case "at", "pack" -> both(m.getName(), level(), x(far) >> random.nextInt(6),
                    y(far) >> random.nextInt(6));
            case "mean" -> both("mean", level(), x(far) >> random.nextInt(6), y(far) >> random.nextInt(6),
                    random.nextInt(far ? 3 : 2));
            case "turned" -> both("turned", x(far), y(far), far ? any(FAR) : random.nextInt(9) - 4);
            case "seam" -> both("seam", far ? any(FAR) : random.nextInt(10));
            default -> {
                int[] arguments = new int[m.getParameterCount()];
                for (int k = 0; k < arguments.length; k++) {
                    arguments[k] = far ? any(FAR) : random.nextInt(random.nextBoolean() ? 3 : 64);
                }
                both(m.getName(), arguments);
            }
        }
    }

    /** A tile packed by the model, made wrong somewhere, with the sum that is right for it. */
    private void forge() {
        int spread = 1 << random.nextInt(9);
        int[][] tile = new int[1 + random.nextInt(8)][1 + random.nextInt(8)];
        for (int[] row : tile) {
            for (int c = 0; c < row.length; c++) {
                row[c] = random.nextInt(spread);
            }
        }
        List<Integer> bytes = Model.packed(tile);
        bytes = new ArrayList<>(bytes.subList(0, bytes.size() - 2));
        int at = random.nextInt(bytes.size());
        switch (random.nextInt(5)) {
            case 0 -> bytes.set(at, bytes.get(at) ^ 1 << random.nextInt(8));
            case 1 -> bytes.remove(at);
            case 2 -> bytes.add(at, random.nextInt(10));
            case 3 -> bytes.add(0);
            default -> { }
        }
        both("clear");
        for (int b : Model.withSum(bytes)) {
            both("load", b);
        }
        both("open");
        both("opened", random.nextInt(65));
        both("restore", random.nextInt(5), random.nextInt(5));
    }

    private void scatter() {
        for (int k = 0; k < 25; k++) {
            both("put", random.nextInt(width), random.nextInt(height), random.nextInt(256));
            both("strip", random.nextInt(8), random.nextInt(height), random.nextInt(4));
        }
    }

    private void seamWhole() {
        both("seam", 1 + random.nextInt(8));
        for (int row = 0; row < height; row++) {
            both("seamAt", row);
        }
    }

    private void overfill() {
        both("clear");
        for (int k = 0; k < 257; k++) {
            both("load", random.nextInt(256));
        }
        both("load", 256);
        both("byteAt", 255);
        both("open");
    }

    private int side() {
        return random.nextInt(8) == 0 ? any(FAR) : 1 + random.nextInt(random.nextBoolean() ? 40 : 10);
    }

    private int level() {
        return random.nextInt(20) == 0 ? any(FAR) : random.nextInt(model.levels());
    }

    private int x(boolean far) {
        return far ? any(FAR) : random.nextInt(width);
    }

    private int y(boolean far) {
        return far ? any(FAR) : random.nextInt(height);
    }

    private int length(boolean far) {
        return far ? any(FAR) : 1 + random.nextInt(random.nextBoolean() ? 3 : 20);
    }

    private int sample() {
        return random.nextInt(10) == 0 ? any(FAR) : random.nextInt(random.nextBoolean() ? 4 : 256);
    }

    private int any(int[] from) {
        return from[random.nextInt(from.length)];
    }

    private void both(String method, int... arguments) {
        calls++;
        String got = Counted.answerOf(object, method, arguments);
        String due = Counted.answerOf(model, method, arguments);
        Check.same(name + " call " + calls + " " + method + Arrays.toString(arguments), got, due);
        boolean threw = due.endsWith("Exception");
        count(method + " " + (threw ? due : "answer"));
        if (method.equals("open")) {
            count("open " + (due.equals("-1") ? "NONE" : due.equals("0") ? "0" : "tile"));
        }
        if (method.equals("restore") && !threw) {
            count("restore " + due);
        }
    }

    private static void count(String what) {
        SEEN.merge(what, 1, Integer::sum);
    }
}
