import java.util.Arrays;

/** What the tests of the project have in common: answers are compared, faults are counted. */
final class Check {
    static final int MIN = Integer.MIN_VALUE;
    static final int MAX = Integer.MAX_VALUE;
    static final String NO_PLACE = "IndexOutOfBoundsException";
    static final String NO_STATE = "IllegalStateException";
    static final String NO_ARGUMENT = "IllegalArgumentException";

    /** How an object comes into a state: each question after it can have an object of its own. */
    interface Maker {
        Counted make();
    }

    private static int wrong = 0;

    private Check() {
    }

    static void due(String what, long got, long want) {
        if (got != want) {
            fault(what + " answered " + got + ", due is " + want);
        }
    }

    static void same(String what, String got, String want) {
        if (!got.equals(want)) {
            fault(what + " is " + got + ", due is " + want);
        }
    }

    static void fault(String text) {
        wrong++;
        System.out.println(text);
    }

    /** The call answers, or throws, what is due. */
    static void answers(String due, Counted p, String method, int... arguments) {
        same(method + Arrays.toString(arguments), p.call(method, arguments), due);
    }

    /** The call throws just that, and all that can be asked of the object is as before. */
    static void refused(String due, Maker maker, String method, int... arguments) {
        answers(due, maker.make(), method, arguments);
        changesNothing(maker, method, arguments);
    }

    static void changesNothing(Maker maker, String method, int... arguments) {
        Maker after = () -> {
            Counted p = maker.make();
            p.call(method, arguments);
            return p;
        };
        same("the state after " + method + Arrays.toString(arguments), stateOf(after), stateOf(maker));
    }

    /** All that can be asked of an object in that state. */
    static String stateOf(Maker maker) {
        Counted p = maker.make();
        StringBuilder text = new StringBuilder("levels " + p.levels() + " bytes " + p.clear());
        int columns = p.size(0, 0);
        int rows = p.size(0, 1);
        for (int y = 0; y < rows; y++) {
            appendRow(text, maker.make(), columns, y);
        }
        appendAll(text, maker, "byteAt", 257);
        appendAll(text, maker, "opened", 65);
        appendAll(text, maker, "seamAt", 41);
        return text.toString();
    }

    private static void appendRow(StringBuilder text, Counted p, int columns, int y) {
        text.append("\nrow ").append(y);
        for (int x = 0; x < columns; x++) {
            text.append(' ').append(p.at(0, x, y));
        }
        text.append(" strip");
        for (int x = 0; x < 8; x++) {
            text.append(' ').append(p.strip(x, y, 0));
        }
    }

    private static void appendAll(StringBuilder text, Maker maker, String method, int count) {
        text.append('\n').append(method);
        Counted p = null;
        String answer = "";
        for (int k = 0; k < count && !answer.equals(NO_PLACE); k++) {
            p = k % 100 == 0 ? maker.make() : p;
            answer = p.call(method, k);
            text.append(' ').append(answer);
        }
    }

    /** The bytes become the buffer, with the sum that is right for them behind them. */
    static void loadWithSum(Counted p, int... body) {
        int sum = sumOf(body);
        loadAll(p, body);
        p.load(sum % 256);
        p.load(sum / 256);
    }

    static void loadAll(Counted p, int... bytes) {
        p.clear();
        for (int b : bytes) {
            p.load(b);
        }
    }

    static int sumOf(int... bytes) {
        long sum = 0;
        for (int b : bytes) {
            sum = (257 * sum + b + 1) % 65521;
        }
        return (int) sum;
    }

    static void end(String test) {
        System.out.println(wrong == 0 ? test + ": all is as due" : test + ": " + wrong + " faults");
        if (wrong != 0) {
            System.exit(1);
        }
    }
}
