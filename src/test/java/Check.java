/** What the tests of the project have in common: answers are compared, faults are counted. */
final class Check {
    interface Call {
        long answer();
    }

    private static int wrong = 0;

    private Check() {
    }

    static void due(String what, long got, long want) {
        if (got != want) {
            fault(what + " answered " + got + ", due is " + want);
        }
    }

    static void same(String what, String got, String want) {
        if (!got.equals(want)) {
            fault(what + " is " + got + ", due is " + want);
        }
    }

    /** The very class: an ArrayIndexOutOfBoundsException would be one that the machine threw. */
    static void thrown(String what, Class<? extends RuntimeException> kind, Call call) {
        try {
            fault(what + " answered " + call.answer() + ", due is " + kind.getSimpleName());
        } catch (RuntimeException e) {
            if (e.getClass() != kind) {
                fault(what + " threw " + e + ", due is " + kind.getSimpleName());
            }
        }
    }

    static void noPlace(String what, Call call) {
        thrown(what, IndexOutOfBoundsException.class, call);
    }

    static void noState(String what, Call call) {
        thrown(what, IllegalStateException.class, call);
    }

    static void noArgument(String what, Call call) {
        thrown(what, IllegalArgumentException.class, call);
    }

    static void fault(String text) {
        wrong++;
        System.out.println(text);
    }

    /** All that can be asked of an object, to see that a refused call changed nothing. */
    static String stateOf(TilePyramid p) {
        StringBuilder text = new StringBuilder();
        int columns = p.size(0, 0);
        int rows = p.size(0, 1);
        for (int y = 0; y < rows; y++) {
            for (int x = 0; x < columns; x++) {
                text.append(p.at(0, x, y)).append(' ');
            }
            for (int x = 0; x < 8; x++) {
                int v = p.strip(x, y, 0);
                p.strip(x, y, v);
                text.append(v).append(' ');
            }
        }
        appendAll(text.append("buffer "), k -> p.byteAt(k));
        appendAll(text.append("opened "), k -> p.opened(k));
        appendAll(text.append("seam "), k -> p.seamAt(k));
        return text.toString();
    }

    private interface Row {
        int get(int k);
    }

    private static void appendAll(StringBuilder text, Row row) {
        try {
            for (int k = 0; k < 1000; k++) {
                text.append(row.get(k)).append(' ');
            }
        } catch (IndexOutOfBoundsException e) {
            text.append("end ");
        }
    }

    /** The bytes become the buffer, with the sum that is right for them behind them. */
    static void loadWithSum(TilePyramid p, int... body) {
        p.clear();
        long sum = 0;
        for (int b : body) {
            p.load(b);
            sum = (257 * sum + b + 1) % 65521;
        }
        p.load((int) (sum % 256));
        p.load((int) (sum / 256));
    }

    static void end(String test) {
        System.out.println(wrong == 0 ? test + ": all is as due" : test + ": " + wrong + " faults");
        if (wrong != 0) {
            System.exit(1);
        }
    }
}
