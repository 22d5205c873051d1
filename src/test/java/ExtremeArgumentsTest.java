import java.lang.reflect.InvocationTargetException;
import java.lang.reflect.Method;
import java.util.Arrays;
import java.util.List;
import java.util.function.Consumer;

/**
 * Every method of the face with arguments at and beyond each edge, in every kind of state that a table can be in: the
 * machine never throws, and the answer is the model's. A table is used for 512 calls, then another one is made.
 */
public final class ExtremeArgumentsTest {
    private static final int MIN = Integer.MIN_VALUE, MAX = Integer.MAX_VALUE;
    private static final int CALLS = 512;

    private static final int[] TRANSACTIONS = {MIN, -2, -1, 0, 1, 7, 8, MAX};
    private static final int[] PLACES = {MIN, -1, 0, 1, 7, 8, 199, 319, 320, MAX};
    private static final int[] FIELDS = {MIN, -2, -1, 0, 1, 3, 4, MAX};
    private static final int[] VALUES = {MIN, -105, -1, 0, 1, 2, MAX};
    private static final int[] NUMBERS = {MIN, -1, 0, 1, 2, 15, 40, 199, 200, 201, 319, 320, 1000, 1001, MAX};
    private static final int[] INDEXES = {MIN, -1, 0, 1, 5, 6, MAX};
    private static final int[] WHATS = {MIN, -1, 0, 1, 2, 3, 4, 5, 6, 7, 8, 9, 10, 11, 12, 13, 14, MAX};
    private static final int[] WAYS = {MIN, -2, -1, 0, 1, 2, 5, 6, 7, 8, MAX};
    private static final int[] YES_NO = {0, 1};

    /** A table and the model, which get the same calls. */
    private static final class Twins {
        final IndexedTable table = new IndexedTable();
        final Model model = new Model();
        int calls = 0;

        int call(String name, Integer... args) {
            calls++;
            int got = answerOf(table, name, args);
            int want = answerOf(model, name, args);
            Due.is(name + Arrays.toString(args), got, want);
            return want;
        }

        private static int answerOf(Object object, String name, Integer[] args) {
            for (Method m : object.getClass().getDeclaredMethods()) {
                if (m.getName().equals(name) && m.getReturnType() == int.class && m.getParameterCount() == args.length) {
                    return answerOf(object, m, args);
                }
            }
            throw new IllegalStateException("no method " + name);
        }

        private static int answerOf(Object object, Method m, Integer[] args) {
            Object[] given = new Object[args.length];
            for (int k = 0; k < args.length; k++) {
                given[k] = m.getParameterTypes()[k] == boolean.class ? (Object) (args[k] != 0) : args[k];
            }
            try {
                return (Integer) m.invoke(object, given);
            } catch (InvocationTargetException e) {
                throw new IllegalStateException(m.getName() + Arrays.toString(args) + " threw", e.getCause());
            } catch (IllegalAccessException e) {
                throw new IllegalStateException(e);
            }
        }
    }

    public static void main(String[] args) {
        List<Consumer<Twins>> states = List.of(ExtremeArgumentsTest::empty, ExtremeArgumentsTest::busy,
            twins -> building(twins, 0), twins -> building(twins, 1), twins -> building(twins, 40), twins -> building(twins, 41),
            ExtremeArgumentsTest::failed, ExtremeArgumentsTest::fullLog, ExtremeArgumentsTest::fullOfRows,
            ExtremeArgumentsTest::fullOfOthers);
        for (Consumer<Twins> state : states) {
            all(state, "begin");
            all(state, "insert", TRANSACTIONS, VALUES, YES_NO, YES_NO, VALUES);
            all(state, "update", TRANSACTIONS, PLACES, FIELDS, VALUES);
            all(state, "remove", TRANSACTIONS, PLACES);
            all(state, "records", TRANSACTIONS);
            all(state, "undo", TRANSACTIONS, NUMBERS);
            all(state, "commit", TRANSACTIONS);
            all(state, "abort", TRANSACTIONS);
            all(state, "index", FIELDS, FIELDS, FIELDS, YES_NO);
            all(state, "drop", INDEXES);
            all(state, "step", INDEXES, NUMBERS);
            all(state, "info", INDEXES, WHATS);
            all(state, "entry", INDEXES, NUMBERS, WHATS);
            all(state, "where", FIELDS, VALUES, VALUES);
            all(state, "ask", TRANSACTIONS, WAYS);
            all(state, "answer", NUMBERS);
            all(state, "asked", WHATS);
            all(state, "cost", WAYS);
            all(state, "sees", TRANSACTIONS, PLACES);
            all(state, "field", TRANSACTIONS, PLACES, FIELDS);
            all(state, "writer", PLACES);
            all(state, "count", WHATS);
            all(state, "audit");
        }
        Due.end();
    }

    /** Calls a method with each choice of arguments; what the calls do to the table stays for the next ones. */
    private static void all(Consumer<Twins> state, String name, int[]... choices) {
        int many = 1;
        for (int[] choice : choices) {
            many *= choice.length;
        }
        Twins twins = null;
        for (int k = 0; k < many; k++) {
            if (twins == null || twins.calls >= CALLS) {
                twins = new Twins();
                state.accept(twins);
            }
            Integer[] args = new Integer[choices.length];
            int rest = k;
            for (int a = 0; a < choices.length; a++) {
                args[a] = choices[a][rest % choices[a].length];
                rest /= choices[a].length;
            }
            twins.call(name, args);
        }
    }

    private static void empty(Twins twins) {
        twins.call("count", 0);
    }

    private static void rows(Twins twins, int... keys) {
        twins.call("begin");
        for (int key : keys) {
            twins.call("insert", 0, key, key % 3, 0, 0);
        }
        twins.call("commit", 0);
    }

    private static void busy(Twins twins) {
        rows(twins, 5, 3, 8, 1, 9, 7, 4, 6, 2, 0, MIN, MAX);
        twins.call("index", 0, -1, -1, 1);
        twins.call("step", 0, 1000);
        twins.call("index", 1, 0, -1, 0);
        twins.call("step", 1, 2);
        twins.call("begin");
        twins.call("begin");
        twins.call("update", 0, 0, 0, 50);
        twins.call("remove", 0, 1);
        twins.call("update", 1, 7, 1, 3);
        twins.call("insert", 1, 60, 1, 0, 0);
        twins.call("where", 0, 0, 7);
        twins.call("ask", 1, 1);
    }

    private static void building(Twins twins, int steps) {
        rows(twins, Tables.upTo(20));
        twins.call("index", 0, 1, -1, 1);
        if (steps > 0) {
            twins.call("step", 0, steps);
        }
        twins.call("begin");
        twins.call("update", 0, 7, 0, 70);
        twins.call("update", 0, 7, 0, 71);
        twins.call("remove", 0, 1);
        twins.call("update", 0, 8, 1, 2);
    }

    private static void failed(Twins twins) {
        rows(twins, 1, 1, 2);
        twins.call("index", 0, -1, -1, 1);
        twins.call("step", 0, 1000);
        twins.call("begin");
        twins.call("insert", 0, 1, 1, 1, 1);
    }

    private static void fullLog(Twins twins) {
        rows(twins, Tables.upTo(8));
        twins.call("index", 0, -1, -1, 1);
        twins.call("step", 0, 41);
        twins.call("begin");
        for (int k = 0; k < 154; k++) {
            twins.call("update", 0, k % 8, 0, 100 + k);
        }
    }

    private static void fullOfRows(Twins twins) {
        twins.call("begin");
        twins.call("begin");
        for (int k = 0; k < 320; k++) {
            twins.call("insert", k < 200 ? 0 : 1, k, 0, 0, 0);
        }
        twins.call("index", 0, -1, -1, 1);
        twins.call("step", 0, 1000);
    }

    private static void fullOfOthers(Twins twins) {
        rows(twins, 0, 1);
        for (int i = 0; i < 6; i++) {
            twins.call("index", i % 3, -1, -1, i % 2);
        }
        twins.call("step", 0, 1000);
        for (int t = 0; t < 8; t++) {
            twins.call("begin");
        }
        for (int k = 1; k <= 200; k++) {
            twins.call("update", 0, 0, 3, k);
        }
    }
}
