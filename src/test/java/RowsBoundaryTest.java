import java.io.IOException;

/**
 * The boundary cases of rows and transactions, a test for each sentence that names one: the document's beginning,
 * its section 1 ROWS, promises 1 to 9 and 20 to 23. Which sentence a test holds is said in its first line.
 */
public final class RowsBoundaryTest {
    private static final int NONE = IndexedTable.NONE, UNKNOWN = IndexedTable.UNKNOWN, OUTSIDE = IndexedTable.OUTSIDE,
        LOCKED = IndexedTable.LOCKED, ROOM = IndexedTable.ROOM, DUPLICATE = IndexedTable.DUPLICATE;
    private static final int MIN = Integer.MIN_VALUE, MAX = Integer.MAX_VALUE;
    /** Numbers that are no transaction of a table that has all eight, nor NONE. */
    private static final int[] NO_TRANSACTION = {MIN, -9, -2, 8, 9, MAX};
    private static final int[] NO_PLACE = {MIN, -2, -1, 320, 321, MAX};
    private static final int[] NO_FIELD = {MIN, -1, 4, MAX};

    public static void main(String[] args) throws IOException {
        calls();
        rows();
        promisesOfWrites();
        promisesOfEnds();
        promisesOfLooks();
        Due.end(args);
    }

    private static void rows() {
        places();
        fields();
        images();
        freePlaces();
        transactions();
        recordsAtMost();
        aWrite();
        undone();
        committed();
        aborted();
        recordsAreGone();
        whatIsSeen();
    }

    private static void promisesOfWrites() {
        newObject();
        begin();
        insertPlace();
        insertRefused();
        insertDuplicate();
        updateNoWrite();
        updateRefused();
        updateRoom();
        updateDuplicate();
        removed();
        removeRefused();
    }

    private static void promisesOfEnds() {
        records();
        undoCounts();
        undoRefused();
        undoDuplicate();
        commitCounts();
        abortCounts();
    }

    private static void promisesOfLooks() {
        sees();
        field();
        fieldOutside();
        fieldValue();
        writer();
        count();
    }

    private static void is(String call, long got, long want) {
        Due.is(call, got, want);
    }

    private static IndexedTable begun(int transactions) {
        IndexedTable x = new IndexedTable();
        for (int t = 0; t < transactions; t++) {
            x.begin();
        }
        return x;
    }

    /** All places have a row, by transactions 0 (0 to 199) and 1, which go on. */
    private static IndexedTable full() {
        IndexedTable x = begun(2);
        for (int k = 0; k < 320; k++) {
            x.insert(k < 200 ? 0 : 1, k, 0, 0, 0);
        }
        return x;
    }

    /** Rows 0 and 1, committed, with keys 1 and 2; transaction 0 has 200 records, all of them of row 0's field 3. */
    private static IndexedTable fullOfRecords(boolean unique) {
        IndexedTable x = Tables.indexed(unique, 1, 2);
        x.begin();
        for (int k = 1; k <= 200; k++) {
            x.update(0, 0, 3, k);
        }
        return x;
    }

    private static void calls() {
        Due.sentence("What it is", "An object is used for at most 512 calls after it has been made; what later calls answer is free.");
        IndexedTable x = begun(1);
        for (int k = 0; k < 200; k++) {
            x.insert(0, k, 0, 0, 0);
        }
        x.commit(0);
        x.index(0, NONE, NONE, true);
        x.step(0, 1000);
        x.begin();
        for (int k = 0; k < 200; k++) {
            x.remove(0, k);
        }
        for (int k = 405; k < 511; k++) {
            is("call " + (k + 1), x.info(0, 6), 200);
        }
        is("call 512", x.commit(0), 200);
        for (int k = 0; k < 1000; k++) {
            // Nothing is due any more, but that the machine does not throw.
            x.begin();
            x.insert(k % 8, k, k, k, k);
            x.step(0, 1);
            x.ask(NONE, NONE);
        }
    }

    // ---- section 1 ROWS

    private static void places() {
        Due.sentence("1 ROWS", "319, eight of them a PAGE (place / 8).");
        IndexedTable x = begun(2);
        int[] lastOfPage = {7, 15, 199, 311, 319};
        for (int k = 0; k < 320; k++) {
            is("insert", x.insert(k < 200 ? 0 : 1, k, 0, 0, 0), k);
            for (int last : lastOfPage) {
                if (k == last) {
                    is("pages up to place " + k, x.cost(0), 8 * (k / 8 + 1));
                } else if (k == last + 1) {
                    is("a page more with place " + k, x.cost(0), 8 * (k / 8 + 1));
                }
            }
        }
        is("forty pages", x.cost(0), 320);
        is("place 0", x.field(0, 0, 0), 0);
        is("place 319", x.field(1, 319, 0), 319);
        for (int place : NO_PLACE) {
            is("writer(" + place + ")", x.writer(place), UNKNOWN);
        }
        is("there is no place 320", x.insert(1, 0, 0, 0, 0), ROOM);
    }

    private static void fields() {
        Due.sentence("1 ROWS", "A row has four FIELDS 0 .. 3, ints.");
        IndexedTable x = begun(1);
        int[] values = {MIN, MAX, 0, NONE, UNKNOWN, OUTSIDE, LOCKED, ROOM, DUPLICATE, MIN + 1, MAX - 1, 1};
        for (int k = 0; k < values.length; k += 4) {
            is("insert", x.insert(0, values[k], values[k + 1], values[k + 2], values[k + 3]), k / 4);
        }
        for (int k = 0; k < values.length; k++) {
            is("field", x.field(0, k / 4, k % 4), values[k]);
        }
        for (int f = 0; f < 4; f++) {
            is("update(field " + f + ")", x.update(0, 2, f, MIN), 1);
            is("field", x.field(0, 2, f), MIN);
        }
        for (int f : NO_FIELD) {
            is("field " + f, x.field(0, 0, f), OUTSIDE);
        }
    }

    private static void images() {
        Due.sentence("1 ROWS", "A place has a COMMITTED image (four fields), or none, a CURRENT image, or none, and a WRITER, "
            + "a transaction, or none.");
        IndexedTable x = Tables.with(1, 2, 3);
        x.begin();
        x.begin();
        x.update(1, 1, 0, 22);
        x.remove(1, 2);
        x.insert(1, 4, 4, 4, 4);
        x.insert(1, 5, 5, 5, 5);
        x.remove(1, 4);
        int[][] due = {
            {0, 1, 1, NONE}, {1, 1, 1, 1}, {2, 1, 0, 1}, {3, 0, 1, 1}, {4, 0, 0, 1}, {5, 0, 0, NONE},
        };
        for (int[] d : due) {
            is("committed image of " + d[0], x.sees(NONE, d[0]), d[1]);
            is("committed image of " + d[0], x.sees(0, d[0]), d[1]);
            is("current image of " + d[0], x.sees(1, d[0]), d[2]);
            is("writer of " + d[0], x.writer(d[0]), d[3]);
        }
    }

    private static void freePlaces() {
        Due.sentence("1 ROWS", "Without a writer both images are the same (both none: the place is FREE).");
        IndexedTable x = begun(2);
        x.insert(0, 1, 1, 1, 1);
        x.remove(0, 0);
        is("no image, but a writer: not free", x.count(0), 1);
        is("not free", x.insert(1, 2, 2, 2, 2), 1);
        is("not free: its page costs", x.cost(0), 8);
        x.undo(1, 0);
        x.commit(0);
        is("no writer: free", x.count(0), 0);
        is("no writer: free", x.cost(0), 0);
        is("no writer: free", x.insert(1, 3, 3, 3, 3), 0);
        x.commit(1);
        x.begin();
        x.remove(0, 0);
        is("a committed image alone", x.count(0), 1);
        is("a committed image alone", x.insert(0, 4, 4, 4, 4), 1);
        x.abort(0);
        is("the row is back", x.count(0), 1);
    }

    private static void transactions() {
        Due.sentence("1 ROWS", "TRANSACTIONS 0 .. 7.");
        IndexedTable x = begun(8);
        is("0", x.insert(0, 0, 0, 0, 0), 0);
        is("7", x.insert(7, 7, 7, 7, 7), 1);
        is("7", x.update(7, 1, 0, 70), 1);
        is("7", x.records(7), 2);
        is("7", x.writer(1), 7);
        is("7", x.ask(7, 0), 1);
        is("7", x.sees(7, 1), 1);
        is("7", x.field(7, 1, 0), 70);
        is("7", x.undo(7, 1), 1);
        is("7", x.remove(7, 1), 1);
        is("7", x.commit(7), 1);
        is("0", x.abort(0), 1);
        is("six are left", x.count(1), 6);
    }

    private static void recordsAtMost() {
        Due.sentence("1 ROWS", "Each has a RECORD for each write that it did and did not undo: 200 at most");
        IndexedTable x = begun(2);
        for (int k = 0; k < 199; k++) {
            x.insert(0, k, 0, 0, 0);
        }
        is("199", x.records(0), 199);
        is("the 200th", x.insert(0, 199, 0, 0, 0), 199);
        is("200", x.records(0), 200);
        is("the 201st", x.insert(0, 200, 0, 0, 0), ROOM);
        is("200 still", x.records(0), 200);
        is("another has its own", x.insert(1, 200, 0, 0, 0), 200);
        is("one is undone", x.undo(0, 199), 1);
        is("room for one", x.remove(0, 0), 1);
        is("and no more", x.remove(0, 1), ROOM);
        is("all are undone", x.undo(0, 0), 200);
        is("room again", x.insert(0, 1, 0, 0, 0), 0);
        is("one", x.records(0), 1);
    }

    private static void aWrite() {
        Due.sentence("1 ROWS", "its current image becomes another one, or none; the writer is that transaction; a record more.");
        IndexedTable x = Tables.with(1);
        x.begin();
        x.begin();
        is("no writer before", x.writer(0), NONE);
        x.update(1, 0, 3, 9);
        is("another one", x.field(1, 0, 3), 9);
        is("the writer", x.writer(0), 1);
        is("a record", x.records(1), 1);
        is("none of the other's", x.records(0), 0);
        x.remove(1, 0);
        is("none", x.sees(1, 0), 0);
        is("the writer", x.writer(0), 1);
        is("a record more", x.records(1), 2);
    }

    private static void undone() {
        Due.sentence("1 ROWS", "UNDONE is the latest record: image and writer become what they were before.");
        IndexedTable x = Tables.with(1);
        x.begin();
        x.insert(0, 5, 6, 7, 8);
        x.update(0, 0, 0, 2);
        x.remove(0, 0);
        x.update(0, 1, 0, 9);
        x.remove(0, 1);
        x.undo(0, 4);
        is("the removed row is as it was", x.field(0, 1, 0), 9);
        is("all of it", x.field(0, 1, 3), 8);
        x.undo(0, 3);
        is("the value before", x.field(0, 1, 0), 5);
        is("its writer was the same", x.writer(1), 0);
        x.undo(0, 2);
        is("the removed row", x.field(0, 0, 0), 2);
        is("its writer was the same", x.writer(0), 0);
        x.undo(0, 1);
        is("as committed", x.field(0, 0, 0), 1);
        is("no writer before", x.writer(0), NONE);
        x.undo(0, 0);
        is("no image before", x.sees(0, 1), 0);
        is("no writer before", x.writer(1), NONE);
    }

    private static void committed() {
        Due.sentence("1 ROWS", "COMMIT: for each place that has this writer, in order: the committed image becomes the current one, "
            + "no writer.");
        IndexedTable x = Tables.building(false, 41, 0, 1, 2, 3);
        x.begin();
        x.begin();
        x.update(0, 3, 0, 13);
        x.update(0, 1, 0, 11);
        x.update(1, 2, 0, 12);
        x.step(0, 3);
        is("two places", x.commit(0), 2);
        is("the other's is as it was", x.writer(2), 1);
        is("what was 1 and 3 goes", x.info(0, 9), 2);
        Due.same("both images", Tables.entries(x, 0), "0@0 1@1 2@2 3@3 11@1 12@2 13@3");
        x.step(0, 1);
        Due.same("place 1 first, though it was written last", Tables.entries(x, 0), "0@0 2@2 3@3 11@1 12@2 13@3");
        x.step(0, 1);
        Due.same("then place 3", Tables.entries(x, 0), "0@0 2@2 11@1 12@2 13@3");
        is("committed", x.field(NONE, 1, 0), 11);
        is("no writer", x.writer(1), NONE);
        is("none of the other's", x.field(NONE, 2, 0), 2);
    }

    private static void aborted() {
        Due.sentence("1 ROWS", "ABORT: all records are undone, the latest first.");
        IndexedTable x = Tables.building(false, 41, 0, 1);
        x.begin();
        x.update(0, 0, 0, 10);
        x.update(0, 1, 0, 11);
        x.update(0, 0, 0, 20);
        x.step(0, 4);
        Due.same("before", Tables.entries(x, 0), "0@0 1@1 11@1 20@0");
        is("three", x.abort(0), 3);
        is("10 comes, 20 goes, 11 goes, 10 goes", x.info(0, 9), 4);
        x.step(0, 1);
        Due.same("the latest", Tables.entries(x, 0), "0@0 1@1 10@0 11@1 20@0");
        x.step(0, 2);
        Due.same("the one before", Tables.entries(x, 0), "0@0 1@1 10@0");
        x.step(0, 1);
        Due.same("the first", Tables.entries(x, 0), "0@0 1@1");
        is("ready", x.step(0, 1), 4);
    }

    private static void recordsAreGone() {
        Due.sentence("1 ROWS", "Both: its records are gone, and it is.");
        for (int way = 0; way < 2; way++) {
            IndexedTable x = Tables.with(1);
            x.begin();
            x.update(0, 0, 0, 2);
            is("the end", way == 0 ? x.commit(0) : x.abort(0), 1);
            is("it is gone", x.records(0), UNKNOWN);
            is("it is gone", x.update(0, 0, 0, 3), UNKNOWN);
            is("it is gone", x.count(1), 0);
            is("its number is free", x.begin(), 0);
            is("without records", x.records(0), 0);
            is("nothing to undo", x.undo(0, 1), OUTSIDE);
            is("nothing to undo", x.abort(0), 0);
            is("as it was ended", x.field(NONE, 0, 0), way == 0 ? 2 : 1);
        }
    }

    private static void whatIsSeen() {
        Due.sentence("1 ROWS", "A transaction SEES of a place that it writes the current image, of all others the committed one; "
            + "nobody (NONE) sees the committed ones.");
        IndexedTable x = Tables.with(1, 2);
        x.begin();
        x.begin();
        x.update(0, 0, 0, 10);
        x.remove(1, 1);
        x.insert(1, 3, 3, 3, 3);
        is("its own", x.field(0, 0, 0), 10);
        is("another's", x.field(1, 0, 0), 1);
        is("nobody", x.field(NONE, 0, 0), 1);
        is("its own, none", x.sees(1, 1), 0);
        is("another's", x.sees(0, 1), 1);
        is("nobody", x.sees(NONE, 1), 1);
        is("its own, new", x.sees(1, 2), 1);
        is("another's, none", x.sees(0, 2), 0);
        is("nobody, none", x.sees(NONE, 2), 0);
        is("nobody sees none where there is no writer", x.sees(NONE, 3), 0);
    }

    // ---- promises 1 to 5

    private static void newObject() {
        Due.sentence("Promise 1", "An empty table, no transactions, no indexes, all conditions as at first, no answer.");
        IndexedTable x = new IndexedTable();
        for (int place = 0; place < 320; place++) {
            is("sees(NONE, " + place + ")", x.sees(NONE, place), 0);
        }
        for (int t = 0; t < 8; t++) {
            is("records(" + t + ")", x.records(t), UNKNOWN);
        }
        for (int i = 0; i < 6; i++) {
            is("info(" + i + ", 0)", x.info(i, 0), UNKNOWN);
        }
        for (int what = 0; what < 4; what++) {
            is("count(" + what + ")", x.count(what), 0);
        }
        is("asked(0)", x.asked(0), NONE);
        is("asked(1)", x.asked(1), 0);
        is("answer(0)", x.answer(0), NONE);
        is("begin()", x.begin(), 0);
        x.insert(0, MIN, MIN, MIN, MIN);
        x.insert(0, MAX, MAX, MAX, MAX);
        is("all ints", x.ask(0, 0), 2);
    }

    private static void begin() {
        Due.sentence("Promise 2", "A transaction begins: its number, the least that is free. ROOM.");
        IndexedTable x = new IndexedTable();
        for (int t = 0; t < 8; t++) {
            is("begin()", x.begin(), t);
        }
        is("a ninth", x.begin(), ROOM);
        is("a ninth again", x.begin(), ROOM);
        is("eight", x.count(1), 8);
        x.commit(7);
        is("the last one again", x.begin(), 7);
        x.abort(0);
        x.abort(7);
        is("the least", x.begin(), 0);
        is("the next", x.begin(), 7);
        is("full again", x.begin(), ROOM);
    }

    private static void insertPlace() {
        Due.sentence("Promise 3", "A row comes to the least FREE place: which.");
        IndexedTable x = full();
        x.commit(0);
        x.commit(1);
        x.begin();
        x.remove(0, 319);
        x.remove(0, 7);
        is("none is free yet", x.insert(0, 1, 1, 1, 1), ROOM);
        x.commit(0);
        x.begin();
        is("the least", x.insert(0, 1, 1, 1, 1), 7);
        is("the last", x.insert(0, 2, 2, 2, 2), 319);
        is("no more", x.insert(0, 3, 3, 3, 3), ROOM);
    }

    private static void insertRefused() {
        Due.sentence("Promise 3", "UNKNOWN (the transaction), ROOM (no place; its records), DUPLICATE.");
        IndexedTable x = full();
        is("no place", x.insert(1, 5, 5, 5, 5), ROOM);
        is("no place and no records", x.insert(0, 5, 5, 5, 5), ROOM);
        is("no transaction goes first", x.insert(2, 5, 5, 5, 5), UNKNOWN);
        is("nobody", x.insert(NONE, 5, 5, 5, 5), UNKNOWN);
        for (int t : NO_TRANSACTION) {
            is("insert(" + t + ")", x.insert(t, 5, 5, 5, 5), UNKNOWN);
        }
        x.undo(1, 119);
        is("a place, but no records", x.insert(0, 5, 5, 5, 5), ROOM);
        is("a place", x.insert(1, 5, 5, 5, 5), 319);
    }

    private static void insertDuplicate() {
        Due.sentence("Promise 3", "ROOM (no place; its records), DUPLICATE.");
        IndexedTable x = fullOfRecords(true);
        x.begin();
        is("its records go first", x.insert(0, 2, 0, 0, 0), ROOM);
        is("with records", x.insert(1, 2, 0, 0, 0), DUPLICATE);
        is("the key of a row that is being written", x.insert(1, 1, 0, 0, 0), DUPLICATE);
        is("not done", x.count(0), 2);
        is("not done", x.records(1), 0);
        is("the place is free still", x.insert(1, 3, 0, 0, 0), 2);
        x = full();
        x.index(0, NONE, NONE, true);
        is("ready", x.step(0, 1000), 4);
        is("no place goes first", x.insert(1, 5, 0, 0, 0), ROOM);
    }

    private static void updateNoWrite() {
        Due.sentence("Promise 4", "A field of a row becomes another value: 1; 0: it has it (that is no write).");
        IndexedTable x = Tables.indexed(true, MIN, 0, MAX);
        x.begin();
        is("it has it", x.update(0, 0, 0, MIN), 0);
        is("it has it", x.update(0, 1, 3, 0), 0);
        is("no record", x.records(0), 0);
        is("no writer", x.writer(0), NONE);
        is("no place written", x.commit(0), 0);
        x.begin();
        is("another", x.update(0, 0, 0, MIN + 1), 1);
        is("it has it now", x.update(0, 0, 0, MIN + 1), 0);
        is("back: another", x.update(0, 0, 0, MIN), 1);
        is("two records", x.records(0), 2);
        is("a writer, though both images are alike", x.writer(0), 0);
        is("one entry", x.info(0, 6), 3);
    }

    private static void updateRefused() {
        Due.sentence("Promise 4", "UNKNOWN (the transaction), OUTSIDE (the field), LOCKED (another one writes that place), "
            + "UNKNOWN (no place, no current image), ROOM, DUPLICATE.");
        IndexedTable x = Tables.with(1, 2, 3);
        x.begin();
        x.begin();
        x.update(0, 0, 0, 9);
        x.remove(0, 1);
        x.insert(0, 4, 4, 4, 4);
        x.remove(0, 3);
        for (int t : NO_TRANSACTION) {
            is("no transaction goes before all", x.update(t, 0, 4, 9), UNKNOWN);
        }
        is("nobody", x.update(NONE, 2, 0, 9), UNKNOWN);
        is("one that has not begun", x.update(2, 0, 0, 9), UNKNOWN);
        for (int f : NO_FIELD) {
            is("the field goes before the lock", x.update(1, 0, f, 9), OUTSIDE);
            is("the field goes before the place", x.update(1, 320, f, 9), OUTSIDE);
        }
        is("locked", x.update(1, 0, 0, 9), LOCKED);
        is("locked, for the value that it has too", x.update(1, 0, 1, 10), LOCKED);
        is("a lock goes before no image", x.update(1, 1, 0, 9), LOCKED);
        is("locked, without images", x.update(1, 3, 0, 9), LOCKED);
        for (int place : NO_PLACE) {
            is("no place", x.update(1, place, 0, 9), UNKNOWN);
        }
        is("no current image", x.update(0, 1, 0, 9), UNKNOWN);
        is("no image at all", x.update(0, 3, 0, 9), UNKNOWN);
        is("free", x.update(0, 4, 0, 0), UNKNOWN);
        is("the last place", x.update(0, 319, 3, 0), UNKNOWN);
        is("its own", x.update(0, 0, 3, MAX), 1);
        is("of nobody", x.update(1, 2, 3, MAX), 1);
    }

    private static void updateRoom() {
        Due.sentence("Promise 4", "UNKNOWN (no place, no current image), ROOM, DUPLICATE.");
        IndexedTable x = fullOfRecords(true);
        x.begin();
        x.remove(1, 1);
        is("200 records", x.update(0, 0, 3, 0), ROOM);
        is("no room goes before a clash", x.update(0, 0, 0, 2), ROOM);
        is("no image goes before no room", x.update(0, 2, 3, 0), UNKNOWN);
        is("no place goes before no room", x.update(0, 320, 3, 0), UNKNOWN);
        is("a lock goes before no room", x.update(0, 1, 3, 0), LOCKED);
        is("no write needs no room", x.update(0, 0, 3, 200), 0);
        x.undo(0, 199);
        is("room for one", x.update(0, 0, 3, 0), 1);
    }

    private static void updateDuplicate() {
        Due.sentence("Promise 4", "DUPLICATE.");
        IndexedTable x = Tables.indexed(true, 1, 2);
        x.index(1, NONE, NONE, true);
        x.step(1, 1000);
        x.begin();
        is("of the first index", x.update(0, 0, 0, 2), DUPLICATE);
        is("of the second index", x.update(0, 0, 1, 20), DUPLICATE);
        is("not done", x.field(0, 0, 0), 1);
        is("no record", x.records(0), 0);
        is("no writer", x.writer(0), NONE);
        is("a field of no index", x.update(0, 0, 2, 20), 1);
        is("a writer alone is no clash", x.update(0, 1, 2, 20), 1);
    }

    private static void removed() {
        Due.sentence("Promise 5", "A row goes: 1.");
        IndexedTable x = full();
        x.commit(0);
        x.commit(1);
        x.begin();
        is("the first", x.remove(0, 0), 1);
        is("the last", x.remove(0, 319), 1);
        is("not seen", x.sees(0, 319), 0);
        is("seen by nobody", x.sees(NONE, 319), 1);
        is("no place is free yet", x.count(0), 320);
        x.commit(0);
        is("now they are", x.count(0), 318);
    }

    private static void removeRefused() {
        Due.sentence("Promise 5", "UNKNOWN (the transaction), LOCKED, UNKNOWN (as of update()), ROOM.");
        IndexedTable x = fullOfRecords(false);
        x.begin();
        x.remove(1, 1);
        for (int t : NO_TRANSACTION) {
            is("no transaction goes before a lock", x.remove(t, 0), UNKNOWN);
        }
        is("nobody", x.remove(NONE, 0), UNKNOWN);
        is("locked", x.remove(1, 0), LOCKED);
        is("a lock goes before no image, and no room", x.remove(0, 1), LOCKED);
        for (int place : NO_PLACE) {
            is("no place goes before no room", x.remove(0, place), UNKNOWN);
        }
        is("no image goes before no room", x.remove(0, 2), UNKNOWN);
        is("no room", x.remove(0, 0), ROOM);
        is("gone already", x.remove(1, 1), UNKNOWN);
        x.undo(0, 199);
        is("room", x.remove(0, 0), 1);
        is("200 again", x.records(0), 200);
    }

    // ---- promises 6 to 9

    private static void records() {
        Due.sentence("Promise 6", "How many records a transaction has. UNKNOWN.");
        IndexedTable x = fullOfRecords(false);
        is("200", x.records(0), 200);
        x.update(0, 0, 3, 0);
        is("a refused write is none", x.records(0), 200);
        x.undo(0, 0);
        is("none", x.records(0), 0);
        is("nobody", x.records(NONE), UNKNOWN);
        is("one that has not begun", x.records(1), UNKNOWN);
        for (int t : NO_TRANSACTION) {
            is("records(" + t + ")", x.records(t), UNKNOWN);
        }
    }

    private static void undoCounts() {
        Due.sentence("Promise 7", "Records of a transaction are UNDONE till n are left: how many were.");
        IndexedTable x = fullOfRecords(true);
        is("none", x.undo(0, 200), 0);
        is("one", x.undo(0, 199), 1);
        is("the value before", x.field(0, 0, 3), 199);
        is("many", x.undo(0, 1), 198);
        is("one is left", x.field(0, 0, 3), 1);
        is("the last", x.undo(0, 0), 1);
        is("none is left", x.field(0, 0, 3), 0);
        is("no writer", x.writer(0), NONE);
        is("none to undo", x.undo(0, 0), 0);
        is("it goes on", x.update(0, 0, 3, 5), 1);
    }

    private static void undoRefused() {
        Due.sentence("Promise 7", "UNKNOWN, OUTSIDE (n is below 0 or more than there are)");
        IndexedTable x = fullOfRecords(false);
        x.begin();
        for (int n : new int[] {MIN, -1, 201, MAX}) {
            is("undo(0, " + n + ")", x.undo(0, n), OUTSIDE);
            is("no transaction goes first", x.undo(2, n), UNKNOWN);
        }
        is("more than the none that there are", x.undo(1, 1), OUTSIDE);
        is("below 0", x.undo(1, -1), OUTSIDE);
        is("none of none", x.undo(1, 0), 0);
        is("nobody", x.undo(NONE, 0), UNKNOWN);
        for (int t : NO_TRANSACTION) {
            is("undo(" + t + ")", x.undo(t, 0), UNKNOWN);
        }
        is("nothing was undone", x.records(0), 200);
    }

    private static void undoDuplicate() {
        Due.sentence("Promise 7", "DUPLICATE (a READY unique index would have a CLASH then)");
        IndexedTable x = Tables.indexed(true);
        x.begin();
        x.begin();
        x.insert(0, 5, 0, 0, 0);
        x.update(0, 0, 0, 6);
        x.update(0, 0, 0, 7);
        x.insert(1, 5, 0, 0, 0);
        is("5 is taken", x.undo(0, 1), DUPLICATE);
        is("nothing was undone", x.records(0), 3);
        is("nothing was undone", x.field(0, 0, 0), 7);
        is("none to undo", x.undo(0, 3), 0);
        is("then there is none, though 5 comes between", x.undo(0, 0), 3);

        x = Tables.with(1);
        x.begin();
        x.insert(0, 1, 0, 0, 0);
        x.update(0, 0, 0, 2);
        x.index(0, NONE, NONE, true);
        is("one writer: ready", x.step(0, 1000), 4);
        is("without that writer a committed image clashes", x.undo(0, 1), DUPLICATE);
        is("it is the writer still", x.writer(0), 0);
        is("all undone: no clash then", x.undo(0, 0), 2);
        is("audit", x.audit(), 0);

        x = Tables.with(1);
        x.begin();
        x.insert(0, 1, 0, 0, 0);
        x.update(0, 0, 0, 2);
        x.index(0, NONE, NONE, true);
        is("not ready", x.step(0, 41), 3);
        is("no index forbids it", x.undo(0, 1), 1);
        is("but it fails", x.step(0, 1000), 5);
        x.drop(0);
        x.index(0, NONE, NONE, false);
        x.update(0, 0, 0, 2);
        is("not unique", x.step(0, 1000), 4);
        is("no index forbids it", x.undo(0, 1), 1);
    }

    private static void commitCounts() {
        Due.sentence("Promise 8", "COMMIT: how many places it wrote (that had it as their writer). UNKNOWN.");
        IndexedTable x = fullOfRecords(false);
        is("200 records, one place", x.commit(0), 1);
        is("it is gone", x.commit(0), UNKNOWN);
        x.begin();
        is("none", x.commit(0), 0);
        x.begin();
        x.update(0, 0, 0, 7);
        x.undo(0, 0);
        x.insert(0, 3, 3, 3, 3);
        x.remove(0, 2);
        is("none that was undone, one without images", x.commit(0), 1);
        is("nobody", x.commit(NONE), UNKNOWN);
        for (int t : NO_TRANSACTION) {
            is("commit(" + t + ")", x.commit(t), UNKNOWN);
        }
        x = full();
        is("200", x.commit(0), 200);
        is("120", x.commit(1), 120);
    }

    private static void abortCounts() {
        Due.sentence("Promise 9", "ABORT: how many records were undone. UNKNOWN.");
        IndexedTable x = fullOfRecords(true);
        is("200 records, one place", x.abort(0), 200);
        is("it is gone", x.abort(0), UNKNOWN);
        x.begin();
        is("none", x.abort(0), 0);
        is("nobody", x.abort(NONE), UNKNOWN);
        for (int t : NO_TRANSACTION) {
            is("abort(" + t + ")", x.abort(t), UNKNOWN);
        }
        x.begin();
        x.update(0, 0, 0, 3);
        x.update(0, 1, 0, 1);
        x.update(0, 0, 0, 2);
        is("keys that changed their places go back", x.abort(0), 3);
        Due.same("as committed", Tables.entries(x, 0), "1@0 2@1");
        is("audit", x.audit(), 0);
    }

    // ---- promises 20 to 23

    private static void sees() {
        Due.sentence("Promise 20", "Whether a transaction (NONE: nobody) SEES an image of a place: 1, 0. UNKNOWN (t; the place).");
        IndexedTable x = full();
        x.commit(0);
        is("the first", x.sees(1, 0), 1);
        is("the last", x.sees(1, 319), 1);
        is("nobody", x.sees(NONE, 0), 1);
        is("nobody", x.sees(NONE, 319), 0);
        is("one that is gone", x.sees(0, 0), UNKNOWN);
        for (int t : NO_TRANSACTION) {
            is("sees(" + t + ", 0)", x.sees(t, 0), UNKNOWN);
        }
        for (int place : NO_PLACE) {
            is("sees(1, " + place + ")", x.sees(1, place), UNKNOWN);
            is("sees(NONE, " + place + ")", x.sees(NONE, place), UNKNOWN);
        }
    }

    private static void field() {
        Due.sentence("Promise 21", "The field of the image that it SEES; 0 without one.");
        IndexedTable x = Tables.with(1);
        x.begin();
        x.begin();
        x.remove(0, 0);
        is("its own: none", x.field(0, 0, 0), 0);
        is("another", x.field(1, 0, 1), 10);
        is("nobody", x.field(NONE, 0, 1), 10);
        is("free", x.field(0, 1, 0), 0);
        x.commit(0);
        is("gone", x.field(NONE, 0, 1), 0);
        is("gone", x.field(1, 0, 1), 0);
    }

    private static void fieldOutside() {
        Due.sentence("Promise 21", "UNKNOWN (t; the place), OUTSIDE (field).");
        IndexedTable x = full();
        for (int f : NO_FIELD) {
            is("field(0, 0, " + f + ")", x.field(0, 0, f), OUTSIDE);
            is("also without an image", x.field(NONE, 0, f), OUTSIDE);
            is("t goes first", x.field(2, 0, f), UNKNOWN);
            is("the place goes first", x.field(0, 320, f), UNKNOWN);
        }
        for (int t : NO_TRANSACTION) {
            is("field(" + t + ", 0, 0)", x.field(t, 0, 0), UNKNOWN);
        }
        for (int place : NO_PLACE) {
            is("field(0, " + place + ", 0)", x.field(0, place, 0), UNKNOWN);
        }
        is("the last", x.field(1, 319, 0), 319);
        is("the last field", x.field(1, 319, 3), 0);
    }

    private static void fieldValue() {
        Due.sentence("Promise 21", "(A value may be the same number.)");
        IndexedTable x = begun(1);
        x.insert(0, UNKNOWN, OUTSIDE, NONE, 0);
        is("UNKNOWN", x.field(0, 0, 0), UNKNOWN);
        is("OUTSIDE", x.field(0, 0, 1), OUTSIDE);
        is("NONE", x.field(0, 0, 2), NONE);
        is("0", x.field(0, 0, 3), 0);
        is("it is seen", x.sees(0, 0), 1);
    }

    private static void writer() {
        Due.sentence("Promise 22", "Of a place: its WRITER; NONE. UNKNOWN.");
        IndexedTable x = full();
        is("the first", x.writer(0), 0);
        is("the last", x.writer(319), 1);
        for (int place : NO_PLACE) {
            is("writer(" + place + ")", x.writer(place), UNKNOWN);
        }
        x.abort(1);
        is("free", x.writer(319), NONE);
        x.commit(0);
        is("a row without", x.writer(0), NONE);
    }

    private static void count() {
        Due.sentence("Promise 23", "what = 0 places that are not FREE, 1 transactions, 2 indexes, 3 READY ones. OUTSIDE.");
        IndexedTable x = full();
        is("all places", x.count(0), 320);
        is("two", x.count(1), 2);
        for (int i = 0; i < 6; i++) {
            x.index(3, NONE, NONE, i % 2 == 0);
            x.step(i, 1000);
        }
        is("six, the failed ones too", x.count(2), 6);
        is("READY ones", x.count(3), 3);
        x.drop(1);
        is("five", x.count(2), 5);
        is("two", x.count(3), 2);
        for (int t = 2; t < 8; t++) {
            x.begin();
        }
        is("all eight", x.count(1), 8);
        for (int what : new int[] {MIN, -1, 4, MAX}) {
            is("count(" + what + ")", x.count(what), OUTSIDE);
        }
    }
}
