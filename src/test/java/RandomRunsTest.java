import java.util.Random;

/**
 * Runs of at most 512 calls, the same ones each time, on a table and on the model: every answer is compared.
 * What a run does most (its bent) is drawn anew for each, so that all parts of the document come up.
 */
public final class RandomRunsTest {
    private static final int CALLS = 512;

    private final Random random;
    private final IndexedTable table = new IndexedTable();
    private final Model model = new Model();
    private final StringBuilder story = new StringBuilder();
    private final int values;
    private final int places;
    private final int writes;
    private final int ends;
    private final int builds;
    private final int longestStep;
    private final int inserts;
    private final int undos;
    private int calls = 0;

    private RandomRunsTest(long seed) {
        random = new Random(seed);
        values = pick(3, 12, 60, 1000);
        places = pick(4, 20, 100, 330);
        writes = pick(40, 70, 90, 97);
        ends = pick(0, 1, 3, 10);
        builds = pick(2, 10, 20);
        longestStep = pick(3, 20, 60, 1000);
        inserts = pick(10, 45, 70, 97);
        undos = pick(1, 4, 20);
        for (int ready = pick(0, 0, 1, 2); ready > 0; ready--) {
            makeIndex(random.nextInt(4) > 0);
            step(model.count(2) - 1, 1000);
        }
    }

    private int pick(int... choices) {
        return choices[random.nextInt(choices.length)];
    }

    public static void main(String[] args) {
        int runs = args.length > 0 ? Integer.parseInt(args[0]) : 1500;
        long first = args.length > 1 ? Long.parseLong(args[1]) : 1;
        for (int k = 0; k < runs && Due.allRight(); k++) {
            RandomRunsTest run = new RandomRunsTest(first + k);
            for (int turn = 0; turn < CALLS && run.mayGoOn(); turn++) {
                run.oneCall();
            }
            if (!Due.allRight()) {
                System.out.println("the run with seed " + (first + k) + ":\n" + run.story);
            }
        }
        Due.end();
    }

    private boolean mayGoOn() {
        return calls < CALLS && Due.allRight();
    }

    private void oneCall() {
        int draw = random.nextInt(100);
        if (draw < 2) {
            due("begin()", table.begin(), model.begin());
        } else if (draw < writes) {
            oneWrite();
        } else if (draw < writes + ends) {
            oneEnd();
        } else if (random.nextInt(40) < builds) {
            oneBuild();
        } else if (random.nextInt(3) == 0) {
            oneQuestion();
        } else {
            oneLook();
        }
    }

    private void due(String call, int got, int want) {
        calls++;
        if (calls > CALLS) {
            // What a call answers behind the 512th is free.
            return;
        }
        story.append(call).append(" = ").append(want).append('\n');
        Due.is(call, got, want);
    }

    private int transaction() {
        if (random.nextInt(40) == 0) {
            return pick(-2, -1, 7, 8, Integer.MAX_VALUE, Integer.MIN_VALUE);
        }
        int t = random.nextInt(3);
        if (!model.isT(t) && random.nextInt(10) > 0) {
            due("begin()", table.begin(), model.begin());
        }
        return t;
    }

    private int place() {
        if (random.nextInt(60) == 0) {
            return pick(-1, 319, 320, Integer.MAX_VALUE, Integer.MIN_VALUE);
        }
        return random.nextInt(Math.max(1, Math.min(places, model.count(0) + 1)));
    }

    private int fieldNumber() {
        return random.nextInt(40) == 0 ? pick(-1, 4, Integer.MAX_VALUE, Integer.MIN_VALUE) : random.nextInt(4);
    }

    private int indexNumber() {
        if (random.nextInt(30) == 0) {
            return pick(-1, 6, Integer.MAX_VALUE, Integer.MIN_VALUE);
        }
        return random.nextInt(random.nextInt(6) == 0 ? 6 : Math.max(1, model.count(2)));
    }

    private int value() {
        return random.nextInt(50) == 0 ? pick(Integer.MIN_VALUE, Integer.MAX_VALUE, -1) : random.nextInt(values);
    }

    private void oneWrite() {
        int t = transaction();
        int draw = random.nextInt(100);
        if (draw < undos) {
            int n = model.records(t) - random.nextInt(8) + 1;
            due("undo(" + t + ", " + n + ")", table.undo(t, n), model.undo(t, n));
        } else if (draw < 2 + undos) {
            due("records(" + t + ")", table.records(t), model.records(t));
        } else if (random.nextInt(100) < inserts) {
            int a = value();
            int b = value();
            int c = value();
            int d = value();
            due("insert(" + t + ", " + a + ", " + b + ", " + c + ", " + d + ")",
                table.insert(t, a, b, c, d), model.insert(t, a, b, c, d));
        } else if (random.nextInt(4) > 0) {
            int p = place();
            int f = fieldNumber();
            int v = value();
            due("update(" + t + ", " + p + ", " + f + ", " + v + ")", table.update(t, p, f, v), model.update(t, p, f, v));
        } else {
            int p = place();
            due("remove(" + t + ", " + p + ")", table.remove(t, p), model.remove(t, p));
        }
    }

    private void oneEnd() {
        int t = transaction();
        if (random.nextInt(3) > 0) {
            due("commit(" + t + ")", table.commit(t), model.commit(t));
        } else {
            due("abort(" + t + ")", table.abort(t), model.abort(t));
        }
    }

    private void oneBuild() {
        int i = indexNumber();
        int draw = random.nextInt(20);
        if (draw < 3) {
            makeIndex(random.nextBoolean());
        } else if (draw < 4) {
            due("drop(" + i + ")", table.drop(i), model.drop(i));
        } else if (draw < 7) {
            buildAnew(i);
        } else {
            step(i, random.nextInt(30) == 0 ? pick(-1, 0, 1000, 1001) : 1 + random.nextInt(longestStep));
        }
    }

    /** A unique index over all that is there now: rows under way that clash, or do not, come up so. */
    private void buildAnew(int i) {
        due("drop(" + i + ")", table.drop(i), model.drop(i));
        makeIndex(true);
        step(i, 1000);
        for (int what = 11; what <= 13; what++) {
            due("info(" + i + ", " + what + ")", table.info(i, what), model.info(i, what));
        }
    }

    private void makeIndex(boolean unique) {
        int first = fieldNumber();
        int second = random.nextBoolean() ? -1 : fieldNumber();
        int third = random.nextInt(3) > 0 ? -1 : fieldNumber();
        due("index(" + first + ", " + second + ", " + third + ", " + unique + ")",
            table.index(first, second, third, unique), model.index(first, second, third, unique));
    }

    private void step(int i, int n) {
        due("step(" + i + ", " + n + ")", table.step(i, n), model.step(i, n));
    }

    private void oneQuestion() {
        int draw = random.nextInt(10);
        if (draw < 4) {
            int f = fieldNumber();
            int low = value();
            int high = random.nextInt(3) == 0 ? low : random.nextInt(4) == 0 ? value() : low + random.nextInt(values);
            due("where(" + f + ", " + low + ", " + high + ")", table.where(f, low, high), model.where(f, low, high));
        } else if (draw < 5) {
            int f = fieldNumber();
            due("where(" + f + ", all)", table.where(f, Integer.MIN_VALUE, Integer.MAX_VALUE),
                model.where(f, Integer.MIN_VALUE, Integer.MAX_VALUE));
        } else if (draw < 7) {
            int way = random.nextInt(10) - 2;
            due("cost(" + way + ")", table.cost(way), model.cost(way));
        } else {
            int t = random.nextInt(3) == 0 ? -1 : transaction();
            int way = random.nextInt(3) == 0 ? random.nextInt(10) - 2 : random.nextInt(4) - 1;
            due("ask(" + t + ", " + way + ")", table.ask(t, way), model.ask(t, way));
            due("asked(0)", table.asked(0), model.asked(0));
            due("asked(1)", table.asked(1), model.asked(1));
            for (int k = 0; k < model.told.size() && mayGoOn(); k++) {
                due("answer(" + k + ")", table.answer(k), model.answer(k));
            }
        }
    }

    private void oneLook() {
        int t = random.nextInt(4) == 0 ? -1 : transaction();
        int p = place();
        int i = indexNumber();
        switch (random.nextInt(9)) {
            case 0: due("sees(" + t + ", " + p + ")", table.sees(t, p), model.sees(t, p)); break;
            case 1: int f = fieldNumber();
                due("field(" + t + ", " + p + ", " + f + ")", table.field(t, p, f), model.field(t, p, f)); break;
            case 2: due("writer(" + p + ")", table.writer(p), model.writer(p)); break;
            case 3: int c = random.nextInt(6) - 1;
                due("count(" + c + ")", table.count(c), model.count(c)); break;
            case 4: due("audit()", table.audit(), model.audit()); break;
            case 5: int k = random.nextInt(40) - 2;
                due("answer(" + k + ")", table.answer(k), model.answer(k)); break;
            case 6: int w = random.nextInt(4) - 1;
                due("asked(" + w + ")", table.asked(w), model.asked(w)); break;
            case 7: int what = random.nextInt(16) - 1;
                due("info(" + i + ", " + what + ")", table.info(i, what), model.info(i, what)); break;
            default: int e = random.nextInt(Math.max(1, model.info(i, 6)) + 2) - 1;
                int part = random.nextInt(7) - 1;
                due("entry(" + i + ", " + e + ", " + part + ")", table.entry(i, e, part), model.entry(i, e, part));
        }
    }
}
