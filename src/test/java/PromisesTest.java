/** One method for each promise of the document: ordinary calls, the edges that it names, wrong inputs. */
public final class PromisesTest {
    private static final int NONE = IndexedTable.NONE, UNKNOWN = IndexedTable.UNKNOWN, OUTSIDE = IndexedTable.OUTSIDE,
        LOCKED = IndexedTable.LOCKED, ROOM = IndexedTable.ROOM, DUPLICATE = IndexedTable.DUPLICATE;
    private static final int MIN = Integer.MIN_VALUE, MAX = Integer.MAX_VALUE;

    public static void main(String[] args) {
        newObject();
        begin();
        insert();
        update();
        remove();
        records();
        undo();
        undoClash();
        commit();
        abort();
        index();
        drop();
        step();
        stepWithLog();
        stepLogOverflow();
        stepClash();
        info();
        entry();
        where();
        ask();
        askOrder();
        answer();
        asked();
        cost();
        cheapest();
        sees();
        field();
        writer();
        count();
        audit();
        Due.end();
    }

    private static void is(String call, long got, long want) {
        Due.is(call, got, want);
    }

    private static void newObject() {
        IndexedTable x = new IndexedTable();
        for (int what = 0; what < 4; what++) {
            is("1 count(" + what + ")", x.count(what), 0);
        }
        is("1 asked(0)", x.asked(0), NONE);
        is("1 asked(1)", x.asked(1), 0);
        is("1 answer(0)", x.answer(0), NONE);
        is("1 records(0)", x.records(0), UNKNOWN);
        is("1 info(0, 0)", x.info(0, 0), UNKNOWN);
        is("1 sees(NONE, 0)", x.sees(NONE, 0), 0);
        is("1 writer(319)", x.writer(319), NONE);
        is("1 cost(0)", x.cost(0), 0);
        is("1 audit()", x.audit(), 0);
        x.begin();
        x.insert(0, MIN, MAX, 0, -1);
        is("1 all conditions let all ints through", x.ask(0, 0), 1);
    }

    private static void begin() {
        IndexedTable x = new IndexedTable();
        for (int t = 0; t < 8; t++) {
            is("2 begin()", x.begin(), t);
        }
        is("2 begin() with eight", x.begin(), ROOM);
        x.insert(5, 1, 1, 1, 1);
        x.abort(5);
        x.commit(3);
        is("2 the least that is free", x.begin(), 3);
        is("2 the next", x.begin(), 5);
        is("2 it has no records", x.records(5), 0);
        is("2 begin() again", x.begin(), ROOM);
    }

    private static void insert() {
        IndexedTable x = new IndexedTable();
        is("3 no transaction", x.insert(0, 1, 2, 3, 4), UNKNOWN);
        is("3 nobody", x.insert(NONE, 1, 2, 3, 4), UNKNOWN);
        x.begin();
        x.begin();
        is("3 insert", x.insert(0, 1, 2, 3, 4), 0);
        is("3 insert", x.insert(1, 5, 6, 7, 8), 1);
        is("3 t above all", x.insert(8, 1, 2, 3, 4), UNKNOWN);
        is("3 t below all", x.insert(MIN, 1, 2, 3, 4), UNKNOWN);
        for (int f = 0; f < 4; f++) {
            is("3 field " + f, x.field(1, 1, f), 5 + f);
        }
        x.remove(0, 0);
        is("3 a removed place has a writer: it is not free", x.insert(0, 0, 0, 0, 0), 2);
        x.commit(0);
        is("3 now it is free", x.insert(1, 0, 0, 0, 0), 0);
        x.abort(1);
        x.begin();
        is("3 so are aborted ones", x.insert(0, 9, 9, 9, 9), 0);

        x = new IndexedTable();
        x.begin();
        x.begin();
        for (int k = 0; k < 200; k++) {
            is("3 insert", x.insert(0, k, 0, 0, 0), k);
        }
        is("3 200 records", x.insert(0, 0, 0, 0, 0), ROOM);
        for (int k = 200; k < 320; k++) {
            is("3 insert", x.insert(1, k, 0, 0, 0), k);
        }
        is("3 320 places", x.insert(1, 0, 0, 0, 0), ROOM);

        x = Tables.indexed(true, 1, 2);
        x.begin();
        is("3 the key of another", x.insert(0, 2, 0, 0, 0), DUPLICATE);
        is("3 it is not done", x.count(0), 2);
        is("3 nor recorded", x.records(0), 0);
        is("3 another key", x.insert(0, 3, 0, 0, 0), 2);
        is("3 of the same writer", x.insert(0, 3, 0, 0, 0), DUPLICATE);
        for (int k = 0; k < 199; k++) {
            x.update(0, 2, 3, k + 1);
        }
        is("3 ROOM goes before DUPLICATE", x.insert(0, 3, 0, 0, 0), ROOM);
    }

    private static void update() {
        IndexedTable x = Tables.with(1, 2);
        is("4 no transaction", x.update(0, 0, 9, 1), UNKNOWN);
        x.begin();
        x.begin();
        is("4 field below", x.update(0, 0, -1, 1), OUTSIDE);
        is("4 field above", x.update(0, 0, 4, 1), OUTSIDE);
        is("4 field goes before place", x.update(0, -1, 4, 1), OUTSIDE);
        is("4 place below", x.update(0, -1, 0, 1), UNKNOWN);
        is("4 place above", x.update(0, 320, 0, 1), UNKNOWN);
        is("4 free place", x.update(0, 319, 0, 1), UNKNOWN);
        is("4 update", x.update(0, 0, 2, 7), 1);
        is("4 it has it", x.update(0, 0, 2, 7), 0);
        is("4 that is no write", x.records(0), 1);
        is("4 a first write that is none", x.update(0, 1, 0, 2), 0);
        is("4 has no writer then", x.writer(1), NONE);
        is("4 it changed", x.field(0, 0, 2), 7);
        is("4 the others did not", x.field(0, 0, 1), 10);
        is("4 locked", x.update(1, 0, 2, 7), LOCKED);
        is("4 OUTSIDE goes before LOCKED", x.update(1, 0, 4, 7), OUTSIDE);
        x.remove(0, 0);
        is("4 LOCKED goes before no image", x.update(1, 0, 0, 1), LOCKED);
        is("4 no current image", x.update(0, 0, 0, 1), UNKNOWN);
        for (int k = 0; k < 198; k++) {
            is("4 update", x.update(0, 1, 3, k + 1), 1);
        }
        is("4 200 records", x.update(0, 1, 3, 0), ROOM);
        is("4 no write needs no room", x.update(0, 1, 3, 198), 0);
        is("4 UNKNOWN goes before ROOM", x.update(0, 7, 3, 198), UNKNOWN);

        x = Tables.indexed(true, 1, 2, 3);
        x.begin();
        x.begin();
        is("4 a key that another has", x.update(0, 0, 0, 2), DUPLICATE);
        is("4 it is not done", x.field(0, 0, 0), 1);
        is("4 no writer", x.writer(0), NONE);
        is("4 another field", x.update(0, 0, 1, 20), 1);
        is("4 a new key", x.update(0, 0, 0, 4), 1);
        is("4 a key that one's own place gave up", x.update(0, 1, 0, 1), 1);
        is("4 not for another", x.update(1, 2, 0, 2), DUPLICATE);
        is("4 nor its new one", x.update(1, 2, 0, 4), DUPLICATE);
        is("4 back", x.update(0, 0, 0, 1), DUPLICATE);
        is("4 audit", x.audit(), 0);
    }

    private static void remove() {
        IndexedTable x = Tables.with(1, 2, 3);
        is("5 no transaction", x.remove(0, 0), UNKNOWN);
        x.begin();
        x.begin();
        is("5 remove", x.remove(0, 0), 1);
        is("5 gone already", x.remove(0, 0), UNKNOWN);
        is("5 of another", x.remove(1, 0), LOCKED);
        is("5 place below", x.remove(0, -1), UNKNOWN);
        is("5 place above", x.remove(0, 320), UNKNOWN);
        is("5 free", x.remove(0, 3), UNKNOWN);
        is("5 it does not see it", x.sees(0, 0), 0);
        is("5 others do", x.sees(1, 0), 1);
        is("5 a record", x.records(0), 1);
        is("5 it is not free", x.count(0), 3);
        for (int k = 0; k < 199; k++) {
            x.update(0, 1, 3, k + 1);
        }
        is("5 200 records", x.remove(0, 2), ROOM);
        is("5 UNKNOWN goes before ROOM", x.remove(0, 3), UNKNOWN);
        is("5 another may", x.remove(1, 2), 1);
        x.commit(1);
        is("5 now it is free", x.count(0), 2);
    }

    private static void records() {
        IndexedTable x = Tables.with(1);
        is("6 no transaction", x.records(0), UNKNOWN);
        x.begin();
        is("6 none", x.records(0), 0);
        x.update(0, 0, 0, 2);
        x.update(0, 0, 0, 3);
        x.insert(0, 0, 0, 0, 0);
        x.remove(0, 1);
        is("6 four", x.records(0), 4);
        x.undo(0, 1);
        is("6 one", x.records(0), 1);
        is("6 below", x.records(NONE), UNKNOWN);
        is("6 above", x.records(8), UNKNOWN);
        x.commit(0);
        is("6 gone", x.records(0), UNKNOWN);
    }

    private static void undo() {
        IndexedTable x = Tables.with(1);
        is("7 no transaction", x.undo(0, 0), UNKNOWN);
        x.begin();
        x.update(0, 0, 0, 2);
        x.insert(0, 5, 0, 0, 0);
        x.update(0, 0, 0, 3);
        x.remove(0, 0);
        is("7 below 0", x.undo(0, -1), OUTSIDE);
        is("7 more than there are", x.undo(0, 5), OUTSIDE);
        is("7 none", x.undo(0, 4), 0);
        is("7 one", x.undo(0, 3), 1);
        is("7 the row is back", x.field(0, 0, 0), 3);
        is("7 two", x.undo(0, 1), 2);
        is("7 the value is back", x.field(0, 0, 0), 2);
        is("7 the writer is still", x.writer(0), 0);
        is("7 the inserted place is free", x.writer(1), NONE);
        is("7 and has none", x.count(0), 1);
        is("7 the last", x.undo(0, 0), 1);
        is("7 no writer", x.writer(0), NONE);
        is("7 as committed", x.field(0, 0, 0), 1);
        is("7 none are left", x.undo(0, 1), OUTSIDE);

        x = Tables.indexed(true);
        x.begin();
        x.begin();
        x.insert(0, 5, 0, 0, 0);
        x.update(0, 0, 0, 6);
        x.update(0, 0, 0, 7);
        is("7 another takes the key", x.insert(1, 5, 0, 0, 0), 1);
        is("7 that key is taken", x.undo(0, 1), DUPLICATE);
        is("7 nothing was undone", x.records(0), 3);
        is("7 nothing", x.field(0, 0, 0), 7);
        is("7 OUTSIDE", x.undo(0, 4), OUTSIDE);
        is("7 half of it goes", x.undo(0, 2), 1);
        is("7 all of it goes", x.undo(0, 0), 2);
        is("7 the tree has the other", x.info(0, 6), 1);
        is("7 audit", x.audit(), 0);
    }

    private static void undoClash() {
        IndexedTable x = new IndexedTable();
        x.begin();
        x.insert(0, 5, 0, 0, 0);
        x.insert(0, 5, 0, 0, 0);
        x.update(0, 1, 0, 6);
        x.index(0, NONE, NONE, true);
        is("7 no clash now", x.step(0, 1000), 4);
        is("7 two places of its own", x.undo(0, 2), DUPLICATE);
        is("7 nothing was undone", x.records(0), 3);
        is("7 without the second one", x.undo(0, 1), 2);
        is("7 audit", x.audit(), 0);

        x = Tables.indexed(true, 1, 2);
        x.begin();
        x.update(0, 0, 0, 3);
        x.update(0, 1, 0, 1);
        x.undo(0, 0);
        for (int k = 0; k < 199; k++) {
            x.update(0, 0, 3, k + 1);
        }
        is("7 nothing of what was undone before", x.undo(0, 198), 1);
        x.update(0, 1, 0, 4);
        x.update(0, 1, 0, 5);
        is("7 a full one", x.records(0), 200);
        is("7 one of it", x.undo(0, 199), 1);
        is("7 the value", x.field(0, 1, 0), 4);
        is("7 all of it", x.undo(0, 0), 199);
        is("7 audit", x.audit(), 0);
    }

    private static void commit() {
        IndexedTable x = Tables.with(1, 2, 3);
        is("8 no transaction", x.commit(0), UNKNOWN);
        x.index(0, NONE, NONE, false);
        x.step(0, 1000);
        x.begin();
        x.begin();
        x.update(0, 0, 0, 7);
        x.update(0, 0, 0, 8);
        x.remove(0, 1);
        x.insert(0, 9, 9, 9, 9);
        x.insert(0, 4, 4, 4, 4);
        x.remove(0, 4);
        x.update(1, 2, 0, 33);
        is("8 entries of both images", x.info(0, 6), 6);
        is("8 a removed new row has no entry", x.count(0), 5);
        is("8 four places", x.commit(0), 4);
        is("8 it is gone", x.commit(0), UNKNOWN);
        is("8 all see it", x.field(NONE, 0, 0), 8);
        is("8 not the other's", x.field(NONE, 2, 0), 3);
        is("8 removed", x.sees(NONE, 1), 0);
        is("8 no writer", x.writer(0), NONE);
        is("8 the other's", x.writer(2), 1);
        is("8 places", x.count(0), 3);
        is("8 entries", x.info(0, 6), 4);
        is("8 audit", x.audit(), 0);
        x.undo(1, 0);
        is("8 none wrote", x.commit(1), 0);
        is("8 below", x.commit(NONE), UNKNOWN);
        is("8 above", x.commit(8), UNKNOWN);
    }

    private static void abort() {
        IndexedTable x = Tables.indexed(true, 1, 2, 3);
        is("9 no transaction", x.abort(0), UNKNOWN);
        x.begin();
        x.update(0, 0, 0, 7);
        x.update(0, 1, 0, 1);
        x.update(0, 0, 0, 2);
        x.remove(0, 2);
        x.insert(0, 4, 4, 4, 4);
        is("9 entries", x.info(0, 6), 6);
        is("9 five records", x.abort(0), 5);
        is("9 it is gone", x.abort(0), UNKNOWN);
        is("9 as before", x.field(NONE, 0, 0), 1);
        is("9 as before", x.field(NONE, 1, 0), 2);
        is("9 as before", x.sees(NONE, 2), 1);
        is("9 free", x.count(0), 3);
        is("9 no writer", x.writer(1), NONE);
        is("9 entries", x.info(0, 6), 3);
        is("9 audit", x.audit(), 0);
        is("9 below", x.abort(NONE), UNKNOWN);
        is("9 above", x.abort(8), UNKNOWN);
        x.begin();
        is("9 nothing to undo", x.abort(0), 0);
    }

    private static void index() {
        IndexedTable x = new IndexedTable();
        int[][] wrong = {{-1, -1, -1}, {4, -1, -1}, {0, 4, -1}, {0, -2, -1}, {0, 1, 4}, {0, 1, -2}, {0, 0, -1}, {0, 1, 0},
            {0, 1, 1}, {0, -1, 1}, {-1, 0, 1}, {MIN, 0, 1}, {0, MAX, 1}};
        for (int[] f : wrong) {
            is("10 index(" + f[0] + ", " + f[1] + ", " + f[2] + ")", x.index(f[0], f[1], f[2], true), OUTSIDE);
        }
        is("10 index", x.index(3, 2, 1, true), 0);
        is("10 index", x.index(3, 2, NONE, false), 1);
        for (int i = 2; i < 6; i++) {
            is("10 index", x.index(0, NONE, NONE, false), i);
        }
        is("10 six are all", x.index(0, NONE, NONE, false), ROOM);
        is("10 OUTSIDE goes before ROOM", x.index(0, 0, NONE, false), OUTSIDE);
        x.drop(4);
        x.drop(2);
        is("10 the least that is free", x.index(1, NONE, NONE, false), 2);
        is("10 it is SCAN", x.info(2, 0), 1);
        is("10 page 0", x.info(2, 10), 0);
    }

    private static void drop() {
        IndexedTable x = Tables.indexed(true, Tables.upTo(30));
        is("11 unknown", x.drop(1), UNKNOWN);
        is("11 below", x.drop(-1), UNKNOWN);
        is("11 above", x.drop(6), UNKNOWN);
        is("11 drop", x.drop(0), 1);
        is("11 again", x.drop(0), UNKNOWN);
        is("11 no way", x.ask(NONE, 1), UNKNOWN);
        x.begin();
        is("11 it forbids no more", x.insert(0, 5, 0, 0, 0), 30);
        is("11 the place is free", x.index(1, NONE, NONE, false), 0);
        is("11 nothing is left of it", x.info(0, 6), 0);
        is("11 not unique", x.info(0, 1), 0);
        is("11 built anew", x.step(0, 1000), 4);
        is("11 audit", x.audit(), 0);

        x = Tables.with(5, 5);
        x.index(0, NONE, NONE, true);
        is("11 failed", x.step(0, 1000), 5);
        x.drop(0);
        x.index(0, NONE, NONE, false);
        is("11 a new one has not failed", x.info(0, 11), 0);
        is("11 nor its places", x.info(0, 12), NONE);
        is("11 nor its places", x.info(0, 13), NONE);
        x.step(0, 1000);
        is("11 its entries are looked at", x.entry(0, 1, 0), 1);
        x.drop(0);
        x.begin();
        x.remove(0, 0);
        x.remove(0, 1);
        x.commit(0);
        x.index(0, NONE, NONE, false);
        is("11 of an empty table", x.step(0, 1000), 4);
        is("11 nothing of the former", x.info(0, 6), 0);
        is("11 audit", x.audit(), 0);
    }

    private static void step() {
        IndexedTable x = new IndexedTable();
        is("12 unknown", x.step(0, 1), UNKNOWN);
        is("12 unknown goes first", x.step(0, 0), UNKNOWN);
        x.index(0, NONE, NONE, false);
        is("12 none", x.step(0, 0), OUTSIDE);
        is("12 too many", x.step(0, 1001), OUTSIDE);
        is("12 negative", x.step(0, -1), OUTSIDE);
        is("12 39 pages", x.step(0, 39), 1);
        is("12 next page", x.info(0, 10), 39);
        is("12 the last page", x.step(0, 1), 2);
        is("12 behind all", x.info(0, 10), 40);
        is("12 nothing to load", x.step(0, 1), 3);
        is("12 nothing to catch", x.step(0, 1), 4);
        is("12 it stays", x.step(0, 1000), 4);
        is("12 OUTSIDE all the same", x.step(0, 1001), OUTSIDE);

        x = Tables.with(Tables.upTo(33));
        x.index(0, NONE, NONE, false);
        is("12 scanned", x.step(0, 40), 2);
        is("12 nothing loaded", x.info(0, 6), 0);
        is("12 sixteen", x.step(0, 1), 2);
        is("12 sixteen", x.info(0, 6), 16);
        is("12 sixteen more", x.step(0, 1), 2);
        is("12 sixteen more", x.info(0, 6), 32);
        is("12 fewer: CATCH", x.step(0, 1), 3);
        is("12 all", x.info(0, 6), 33);
        is("12 ready", x.step(0, 1), 4);

        x = Tables.with(Tables.upTo(16));
        x.index(0, NONE, NONE, false);
        x.step(0, 40);
        is("12 just sixteen are not fewer", x.step(0, 1), 2);
        is("12 then none come", x.step(0, 1), 3);

        x = Tables.with(5, 4, 3, 2, 1, 0);
        x.index(0, NONE, NONE, false);
        x.step(0, 41);
        // In the order of entries: 0 1 2 3 4 split at 2, then 5; in the order of places the root had 3.
        is("12 they are loaded in order", x.entry(0, 2, 4), 0);
        is("12 they are loaded in order", x.entry(0, 3, 4), 1);

        x = Tables.with(50, 20, 70, 10, 80, 30, 60, 40, 90, 0, 15, 25, 35, 45, 55, 65, 75, 85);
        x.index(0, NONE, NONE, false);
        is("12 the least sixteen come first", x.step(0, 41), 2);
        is("12 the sixteenth", x.entry(0, 15, 1), 80);
        int[] first = {0, 10, 15, 20, 25, 30};
        for (int p = 0; p < first.length; p++) {
            is("12 in order", x.entry(0, p, 1), first[p]);
            is("12 as if they had come so", x.entry(0, p, 4), p % 3 == 2 ? 0 : 1);
        }
    }

    private static void stepWithLog() {
        IndexedTable x = Tables.with(Tables.upTo(10));
        x.index(0, NONE, NONE, false);
        x.begin();
        x.update(0, 9, 0, 90);
        is("12 not scanned: no log", x.info(0, 9), 0);
        x.step(0, 1);
        x.update(0, 8, 0, 80);
        is("12 still not scanned", x.info(0, 9), 0);
        x.update(0, 7, 0, 70);
        is("12 came", x.info(0, 9), 1);
        x.update(0, 7, 0, 71);
        is("12 came and went", x.info(0, 9), 3);
        x.update(0, 7, 1, 5);
        is("12 the same key", x.info(0, 9), 3);
        x.undo(0, 3);
        is("12 undoing logs too", x.info(0, 9), 5);
        is("12 scan and load: both images of 8 and 9", x.step(0, 40), 3);
        is("12 entries", x.info(0, 6), 12);
        is("12 came 70", x.step(0, 1), 3);
        is("12 entries", x.info(0, 6), 13);
        is("12 log", x.info(0, 9), 4);
        x.step(0, 1);
        is("12 came 71", x.info(0, 6), 14);
        x.step(0, 1);
        is("12 went 70", x.info(0, 6), 13);
        is("12 71", x.entry(0, 10, 1), 71);
        x.step(0, 1);
        is("12 came 70", x.info(0, 6), 14);
        is("12 the log is used up", x.step(0, 1), 3);
        is("12 its log", x.info(0, 9), 0);
        x.commit(0);
        is("12 commit logs what goes", x.info(0, 9), 3);
        is("12 and is caught up", x.step(0, 4), 4);
        is("12 ten rows", x.info(0, 6), 10);
        is("12 audit", x.audit(), 0);
    }

    /** Seven or eight rows, the index at a state, and updates till the log has 299 or 300. */
    private static IndexedTable nearOverflow(int rows, int steps) {
        IndexedTable x = Tables.with(Tables.upTo(rows));
        x.index(0, NONE, NONE, false);
        x.step(0, steps);
        x.begin();
        for (int k = 0; k < rows + 146; k++) {
            x.update(0, k % rows, 0, 100 + k);
        }
        is("12 log", x.info(0, 9), rows + 292);
        return x;
    }

    private static void stepLogOverflow() {
        int[] steps = {1, 40, 41};
        for (int k = 0; k < 3; k++) {
            IndexedTable x = nearOverflow(8, steps[k]);
            is("12 building", x.info(0, 0), k + 1);
            is("12 the write is done", x.update(0, 0, 0, -5), 1);
            is("12 FAILED", x.info(0, 0), 5);
            is("12 for 2", x.info(0, 11), 2);
            is("12 no places", x.info(0, 12), NONE);
            is("12 no places", x.info(0, 13), NONE);
            is("12 no log", x.info(0, 9), 0);
            is("12 no entries", x.info(0, 6), 0);
            is("12 the page that was next", x.info(0, 10), steps[k] == 1 ? 1 : 40);
            is("12 nothing comes to it", x.insert(0, 0, 0, 0, 0), 8);
            is("12 it stays", x.step(0, 1000), 5);
            is("12 no entries", x.info(0, 6), 0);
            is("12 no way", x.ask(0, 1), UNKNOWN);
            is("12 not ready", x.count(3), 0);
        }
        IndexedTable x = nearOverflow(7, 1);
        is("12 one comes as the 300th, one goes", x.update(0, 0, 0, -5), 1);
        is("12 FAILED", x.info(0, 0), 5);
        x = nearOverflow(8, 41);
        is("12 300 are no failure", x.step(0, 1000), 4);
        is("12 audit", x.audit(), 0);
        is("12 both images", x.info(0, 6), 16);
    }

    private static void stepClash() {
        IndexedTable x = Tables.with(4, 5, 6, 5, 4, 5);
        x.index(0, NONE, NONE, true);
        is("12 FAILED", x.step(0, 1000), 5);
        is("12 for 1", x.info(0, 11), 1);
        is("12 the least one", x.info(0, 12), 0);
        is("12 the least other", x.info(0, 13), 4);
        is("12 entries", x.info(0, 6), 0);
        x.index(0, 1, NONE, false);
        is("12 not unique: READY", x.step(1, 1000), 4);

        x = Tables.with(1, 2);
        x.begin();
        x.begin();
        x.update(0, 0, 0, 3);
        x.update(0, 1, 0, 1);
        x.index(0, NONE, NONE, true);
        is("12 one writer: what it gave up it may take", x.step(0, 1000), 4);
        x.index(0, NONE, NONE, true);
        x.insert(1, 7, 0, 0, 0);
        x.step(1, 20);
        is("12 while the other index is ready", x.insert(0, 7, 0, 0, 0), DUPLICATE);
        x.drop(0);
        is("12 while it is building", x.insert(0, 7, 0, 0, 0), 3);
        is("12 two writers", x.step(1, 1000), 5);
        is("12 one", x.info(1, 12), 2);
        is("12 other", x.info(1, 13), 3);
        x.abort(0);
        x.commit(1);
        x.begin();
        x.begin();
        x.update(0, 0, 0, 3);
        x.update(1, 1, 0, 1);
        x.index(0, NONE, NONE, true);
        is("12 committed against current", x.step(0, 1000), 5);
        is("12 one", x.info(0, 12), 0);
        is("12 other", x.info(0, 13), 1);
        x = Tables.with(1, 1);
        x.begin();
        x.update(0, 0, 0, 3);
        x.update(0, 1, 0, 4);
        x.index(0, NONE, NONE, true);
        is("12 committed against committed, one writer", x.step(0, 1000), 5);
        x = Tables.with(3, 5, 5);
        x.begin();
        x.remove(0, 1);
        x.index(0, NONE, NONE, true);
        is("12 a row that is being removed has its key", x.step(0, 1000), 5);
        is("12 one", x.info(0, 12), 1);
        is("12 other", x.info(0, 13), 2);
    }

    private static void info() {
        IndexedTable x = Tables.with(1, 2, 2);
        is("13 unknown", x.info(0, 0), UNKNOWN);
        is("13 below", x.info(-1, 0), UNKNOWN);
        is("13 above", x.info(6, 99), UNKNOWN);
        x.index(3, 0, 2, true);
        int[] first = {1, 1, 3, 3, 0, 2, 0, 1, 1, 0, 0, 0, NONE, NONE};
        for (int what = 0; what < 14; what++) {
            is("13 info(0, " + what + ")", x.info(0, what), first[what]);
        }
        is("13 what below", x.info(0, -1), OUTSIDE);
        is("13 what above", x.info(0, 14), OUTSIDE);
        x.step(0, 1000);
        int[] failed = {5, 1, 3, 3, 0, 2, 0, 1, 1, 0, 40, 1, 1, 2};
        for (int what = 0; what < 14; what++) {
            is("13 failed: info(0, " + what + ")", x.info(0, what), failed[what]);
        }
        x.index(2, 1, NONE, false);
        x.step(1, 1000);
        int[] ready = {4, 0, 2, 2, 1, NONE, 3, 1, 1, 0, 40, 0, NONE, NONE};
        for (int what = 0; what < 14; what++) {
            is("13 ready: info(1, " + what + ")", x.info(1, what), ready[what]);
        }
    }

    private static void entry() {
        IndexedTable x = new IndexedTable();
        x.begin();
        x.insert(0, 5, MIN, 7, 1);
        x.insert(0, 5, MAX, 7, 2);
        x.insert(0, -5, 0, 8, 3);
        x.insert(0, 5, MIN, 7, 4);
        is("14 unknown index", x.entry(0, 0, 0), UNKNOWN);
        x.index(0, 1, NONE, false);
        is("14 unknown entry", x.entry(0, 0, 0), UNKNOWN);
        x.step(0, 1000);
        int[][] due = {{2, -5, 0, 0, 0}, {0, 5, MIN, 0, 0}, {3, 5, MIN, 0, 0}, {1, 5, MAX, 0, 0}};
        for (int p = 0; p < 4; p++) {
            for (int what = 0; what < 5; what++) {
                is("14 entry(0, " + p + ", " + what + ")", x.entry(0, p, what), due[p][what]);
            }
        }
        is("14 entry below", x.entry(0, -1, 0), UNKNOWN);
        is("14 entry above", x.entry(0, 4, 9), UNKNOWN);
        is("14 what below", x.entry(0, 0, -1), OUTSIDE);
        is("14 what above", x.entry(0, 0, 5), OUTSIDE);
        is("14 index above", x.entry(6, 0, 9), UNKNOWN);
        x.index(3, 2, 0, false);
        x.step(1, 1000);
        is("14 first", x.entry(1, 2, 1), 3);
        is("14 second", x.entry(1, 2, 2), 8);
        is("14 third", x.entry(1, 2, 3), -5);
        x.commit(0);
        x.begin();
        x.update(0, 2, 0, 6);
        is("14 a place has the entries of both images", x.info(0, 6), 5);
        is("14 the committed one", x.entry(0, 0, 0), 2);
        is("14 the current one", x.entry(0, 4, 0), 2);
        is("14 the current one", x.entry(0, 4, 1), 6);
        is("14 the root", x.entry(0, 2, 4), 0);
        is("14 below the root", x.entry(0, 3, 4), 1);
    }

    private static void where() {
        IndexedTable x = Tables.with(1, 2, 3);
        is("15 below", x.where(-1, 0, 0), OUTSIDE);
        is("15 above", x.where(4, 0, 0), OUTSIDE);
        is("15 nothing changed", x.ask(NONE, 0), 3);
        is("15 where", x.where(0, 2, 3), 1);
        is("15 two", x.ask(NONE, 0), 2);
        is("15 another field", x.where(1, 10, 20), 1);
        is("15 both", x.ask(NONE, 0), 1);
        is("15 it is place 1", x.answer(0), 1);
        is("15 low above high", x.where(3, 1, 0), 1);
        is("15 none", x.ask(NONE, 0), 0);
        is("15 all ints again", x.where(3, MIN, MAX), 1);
        is("15 where once more", x.where(0, MIN, 1), 1);
        is("15 the former is no more", x.ask(NONE, 0), 1);
        is("15 it is place 0", x.answer(0), 0);
    }

    private static void ask() {
        IndexedTable x = Tables.indexed(false, 3, 1, 2, 1);
        is("16 no transaction", x.ask(0, 0), UNKNOWN);
        is("16 t goes first", x.ask(0, 7), UNKNOWN);
        is("16 t below", x.ask(-2, 0), UNKNOWN);
        is("16 t above", x.ask(8, 0), UNKNOWN);
        is("16 no index", x.ask(NONE, 2), UNKNOWN);
        is("16 way below", x.ask(NONE, -2), OUTSIDE);
        is("16 way above", x.ask(NONE, 7), OUTSIDE);
        is("16 the last index is a way", x.ask(NONE, 6), UNKNOWN);
        x.index(1, NONE, NONE, false);
        x.step(1, 41);
        is("16 not ready", x.ask(NONE, 2), UNKNOWN);
        is("16 no answer yet", x.asked(0), NONE);
        x.begin();
        x.begin();
        x.update(0, 0, 0, 0);
        x.remove(0, 1);
        x.insert(0, 1, 0, 0, 0);
        x.where(0, 0, 1);
        for (int way = 0; way < 2; way++) {
            is("16 it sees its own", x.ask(0, way), 3);
            is("16 another sees what was committed", x.ask(1, way), 2);
            is("16 nobody too", x.ask(NONE, way), 2);
        }
        is("16 a wrong call leaves the answer", x.ask(5, 0), UNKNOWN);
        is("16 the answer", x.asked(0), 1);
        x.commit(0);
        is("16 now all", x.ask(NONE, 1), 3);
    }

    private static void askOrder() {
        IndexedTable x = Tables.indexed(false, 3, 1, 2, 1);
        x.ask(NONE, 0);
        for (int k = 0; k < 4; k++) {
            is("16 in order of places", x.answer(k), k);
        }
        x.ask(NONE, 1);
        int[] order = {1, 3, 2, 0};
        for (int k = 0; k < 4; k++) {
            is("16 in order of entries", x.answer(k), order[k]);
        }
        x.begin();
        x.update(0, 3, 0, 9);
        x.ask(0, 1);
        int[] own = {1, 2, 0, 3};
        for (int k = 0; k < 4; k++) {
            is("16 by the entry of what is seen", x.answer(k), own[k]);
        }
        x.ask(NONE, 1);
        for (int k = 0; k < 4; k++) {
            is("16 of nobody", x.answer(k), order[k]);
        }
    }

    private static void answer() {
        IndexedTable x = Tables.with(1, 2, 3);
        is("17 without", x.answer(0), NONE);
        x.where(0, 2, 3);
        x.ask(NONE, 0);
        is("17 first", x.answer(0), 1);
        is("17 second", x.answer(1), 2);
        is("17 behind", x.answer(2), NONE);
        is("17 below", x.answer(-1), NONE);
        is("17 far", x.answer(MAX), NONE);
        x.begin();
        x.remove(0, 1);
        x.commit(0);
        is("17 it is the latest answer still", x.answer(0), 1);
        x.ask(NONE, 0);
        is("17 a new one", x.answer(0), 2);
        is("17 no second", x.answer(1), NONE);
    }

    private static void asked() {
        IndexedTable x = Tables.indexed(false, 3, 1, 2, 1);
        is("18 without", x.asked(0), NONE);
        is("18 without", x.asked(1), 0);
        is("18 below", x.asked(-1), OUTSIDE);
        is("18 above", x.asked(2), OUTSIDE);
        x.ask(NONE, 0);
        is("18 the scan", x.asked(0), 0);
        is("18 all places", x.asked(1), 320);
        x.where(0, 1, 2);
        x.where(1, 20, 20);
        is("18 one fits", x.ask(NONE, 1), 1);
        is("18 the index", x.asked(0), 1);
        is("18 its range", x.asked(1), 3);
        x.begin();
        x.update(0, 0, 0, 2);
        x.ask(NONE, 1);
        is("18 entries of what is under way count", x.asked(1), 4);
        x.where(0, 2, 1);
        x.ask(NONE, 1);
        is("18 low above high", x.asked(1), 0);
    }

    private static void cost() {
        IndexedTable x = Tables.indexed(false, Tables.upTo(17));
        is("19 three pages", x.cost(0), 24);
        is("19 all entries", x.cost(1), 3 + 3 * 17);
        x.where(0, 3, 5);
        is("19 three of them", x.cost(1), 3 + 9);
        is("19 the scan as before", x.cost(0), 24);
        is("19 below", x.cost(-1), OUTSIDE);
        is("19 above", x.cost(7), OUTSIDE);
        is("19 no index", x.cost(6), UNKNOWN);
        x.index(0, 1, 2, false);
        is("19 not ready", x.cost(2), UNKNOWN);
        x.step(1, 1000);
        is("19 the first field alone", x.cost(2), 3 + 9);
        x.where(1, 40, 40);
        is("19 the second does not count", x.cost(2), 3 + 9);
        x.where(0, 4, 4);
        is("19 now it does", x.cost(2), 3 + 3);
        x.where(1, 41, 50);
        is("19 none", x.cost(2), 3);
        x.where(1, MIN, MAX);
        is("19 one", x.cost(2), 3 + 3);
        x.where(1, 40, 40);
        x.where(2, 1, 2);
        is("19 the third too", x.cost(2), 3);
        x.where(2, 0, 0);
        x.where(3, 5, 5);
        is("19 no fourth", x.cost(2), 3 + 3);
        x.begin();
        x.remove(0, 16);
        is("19 a removed place is not free", x.cost(0), 24);
        x.commit(0);
        is("19 two pages", x.cost(0), 16);
    }

    private static void cheapest() {
        IndexedTable x = new IndexedTable();
        is("16 an empty table", x.ask(NONE, NONE), 0);
        is("16 the scan", x.asked(0), 0);
        x = Tables.indexed(false, Tables.upTo(8));
        is("19 the scan", x.cost(0), 8);
        x.where(0, 1, 2);
        is("19 as dear", x.cost(1), 8);
        is("16 two", x.ask(NONE, NONE), 2);
        is("16 of several the scan", x.asked(0), 0);
        x.where(0, 1, 1);
        x.index(0, NONE, NONE, true);
        x.step(1, 1000);
        x.ask(NONE, NONE);
        is("16 the least index", x.asked(0), 1);
        x.drop(0);
        x.ask(NONE, NONE);
        is("16 the index that is left", x.asked(0), 2);
        x.index(0, NONE, NONE, true);
        x.where(1, 5, 5);
        x.index(1, 0, NONE, true);
        x.step(2, 1000);
        x.ask(NONE, NONE);
        is("16 the cheapest; one that is building is none", x.asked(0), 3);
    }

    private static void sees() {
        IndexedTable x = Tables.with(1, 2);
        x.begin();
        x.begin();
        x.remove(0, 0);
        x.insert(0, 3, 3, 3, 3);
        is("20 nobody", x.sees(NONE, 0), 1);
        is("20 its own", x.sees(0, 0), 0);
        is("20 another", x.sees(1, 0), 1);
        is("20 new", x.sees(0, 2), 1);
        is("20 new, nobody", x.sees(NONE, 2), 0);
        is("20 new, another", x.sees(1, 2), 0);
        is("20 all", x.sees(0, 1), 1);
        is("20 free", x.sees(0, 319), 0);
        is("20 place below", x.sees(0, -1), UNKNOWN);
        is("20 place above", x.sees(0, 320), UNKNOWN);
        is("20 t", x.sees(2, 0), UNKNOWN);
        is("20 t below", x.sees(-2, 0), UNKNOWN);
        is("20 t above", x.sees(8, 0), UNKNOWN);
    }

    private static void field() {
        IndexedTable x = Tables.with(1, 2);
        x.begin();
        x.begin();
        x.update(0, 0, 0, UNKNOWN);
        x.remove(0, 1);
        is("21 its own", x.field(0, 0, 0), UNKNOWN);
        is("21 nobody", x.field(NONE, 0, 0), 1);
        is("21 another", x.field(1, 0, 1), 10);
        is("21 removed", x.field(0, 1, 0), 0);
        is("21 removed, another", x.field(1, 1, 0), 2);
        is("21 free", x.field(0, 9, 3), 0);
        is("21 field below", x.field(0, 0, -1), OUTSIDE);
        is("21 field above", x.field(0, 0, 4), OUTSIDE);
        is("21 without an image too", x.field(0, 9, 4), OUTSIDE);
        is("21 place below", x.field(0, -1, 4), UNKNOWN);
        is("21 place above", x.field(0, 320, 0), UNKNOWN);
        is("21 t", x.field(2, 0, 0), UNKNOWN);
        is("21 t below", x.field(-2, 0, 0), UNKNOWN);
    }

    private static void writer() {
        IndexedTable x = Tables.with(1, 2);
        x.begin();
        x.begin();
        x.update(1, 0, 0, 5);
        is("22 its writer", x.writer(0), 1);
        is("22 none", x.writer(1), NONE);
        is("22 free", x.writer(319), NONE);
        is("22 below", x.writer(-1), UNKNOWN);
        is("22 above", x.writer(320), UNKNOWN);
        x.remove(0, 1);
        is("22 of a removed one", x.writer(1), 0);
        x.abort(1);
        x.commit(0);
        is("22 none", x.writer(0), NONE);
        is("22 none", x.writer(1), NONE);
    }

    private static void count() {
        IndexedTable x = Tables.with(1, 2, 2);
        x.begin();
        x.begin();
        x.remove(0, 0);
        x.insert(1, 5, 5, 5, 5);
        x.index(0, NONE, NONE, true);
        x.index(0, NONE, NONE, false);
        x.index(0, 1, NONE, false);
        x.step(0, 1000);
        x.step(1, 1000);
        is("23 places", x.count(0), 4);
        is("23 transactions", x.count(1), 2);
        is("23 indexes, the failed one too", x.count(2), 3);
        is("23 ready", x.count(3), 1);
        is("23 below", x.count(-1), OUTSIDE);
        is("23 above", x.count(4), OUTSIDE);
        x.commit(0);
        x.drop(1);
        is("23 places", x.count(0), 3);
        is("23 transactions", x.count(1), 1);
        is("23 indexes", x.count(2), 2);
        is("23 ready", x.count(3), 0);
    }

    private static void audit() {
        IndexedTable x = Tables.indexed(true, Tables.upTo(60));
        x.index(1, NONE, NONE, false);
        x.step(1, 1000);
        is("24 built", x.audit(), 0);
        x.begin();
        for (int k = 0; k < 60; k += 2) {
            x.remove(0, k);
            x.update(0, k + 1, 0, k);
            is("24 under way", x.audit(), 0);
        }
        x.undo(0, 31);
        is("24 undone", x.audit(), 0);
        is("24 two keys for each that changed", x.info(0, 6), 60 + 15);
        x.commit(0);
        is("24 committed", x.audit(), 0);
        is("24 those that are left", x.info(0, 6), 44);
    }
}
