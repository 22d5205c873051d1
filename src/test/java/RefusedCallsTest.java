import java.io.IOException;
import java.util.ArrayList;
import java.util.List;
import java.util.function.Supplier;
import java.util.function.ToIntFunction;

/**
 * Section 4's sentence on refused calls: each call that a promise refuses is made on one of two tables that are alike,
 * and then both are looked at. The promise is named with each call.
 */
public final class RefusedCallsTest {
    private static final int NONE = IndexedTable.NONE, UNKNOWN = IndexedTable.UNKNOWN, OUTSIDE = IndexedTable.OUTSIDE,
        LOCKED = IndexedTable.LOCKED, ROOM = IndexedTable.ROOM, DUPLICATE = IndexedTable.DUPLICATE;

    public static void main(String[] args) throws IOException {
        nothingElse();
        nothingElseWhenFull();
        theFirstOne();
        theFirstOneWhenFull();
        Due.end(args);
    }

    /** Much is under way: two transactions, a ready unique index, one that is building with a log, an answer. */
    private static IndexedTable busy() {
        IndexedTable x = Tables.indexed(true, 1, 2, 3, 4);
        x.index(1, 0, NONE, false);
        x.step(1, 1);
        x.begin();
        x.begin();
        x.update(0, 0, 0, 11);
        x.remove(0, 1);
        x.update(1, 2, 0, 33);
        x.insert(1, 5, 50, 0, 0);
        x.update(1, 4, 1, 51);
        x.where(0, 2, 40);
        x.ask(1, 1);
        return x;
    }

    /** All places have rows (their keys are their places), transaction 0 has 200 records, the unique index is ready. */
    private static IndexedTable fullOfRows() {
        IndexedTable x = new IndexedTable();
        x.begin();
        x.begin();
        for (int k = 0; k < 320; k++) {
            x.insert(k < 200 ? 0 : 1, k, 0, 0, 0);
        }
        x.index(0, NONE, NONE, true);
        x.step(0, 1000);
        return x;
    }

    private static IndexedTable fullOfOthers() {
        IndexedTable x = Tables.indexed(true, 1, 2, 3);
        for (int i = 1; i < 6; i++) {
            x.index(1, NONE, NONE, false);
        }
        for (int t = 0; t < 8; t++) {
            x.begin();
        }
        for (int k = 1; k <= 200; k++) {
            x.update(0, 0, 3, k);
        }
        return x;
    }

    /** What can be seen, as far as some places and two transactions go. */
    private static List<Integer> look(IndexedTable x, int... places) {
        List<Integer> seen = new ArrayList<>();
        for (int k = 0; k < 4; k++) {
            seen.add(x.count(k));
            seen.add(x.answer(k));
            seen.add(x.cost(k));
        }
        seen.add(x.asked(0));
        seen.add(x.asked(1));
        for (int t = 0; t < 3; t++) {
            seen.add(x.records(t));
        }
        for (int place : places) {
            seen.add(x.writer(place));
            for (int t = NONE; t < 2; t++) {
                seen.add(x.sees(t, place));
                seen.add(x.field(t, place, 0));
                seen.add(x.field(t, place, 1));
                seen.add(x.field(t, place, 3));
            }
        }
        for (int i = 0; i < 2; i++) {
            for (int what = 0; what < 14; what++) {
                seen.add(x.info(i, what));
            }
            for (int p = 0; p < 9; p++) {
                seen.add(x.entry(i, p, 0));
                seen.add(x.entry(i, p, 1));
            }
        }
        seen.add(x.ask(NONE, 0));
        return seen;
    }

    private static void refused(String call, Supplier<IndexedTable> made, ToIntFunction<IndexedTable> asked, int due) {
        IndexedTable x = made.get();
        Due.is(call, asked.applyAsInt(x), due);
        Due.same(call + ": what can be seen then", look(x, 0, 1, 2, 4, 5), look(made.get(), 0, 1, 2, 4, 5));
    }

    private static void nothingElse() {
        Due.sentence("4 QUESTIONS", "UNKNOWN, OUTSIDE, LOCKED, ROOM, DUPLICATE are told by calls that do nothing else");
        refused("3 insert(2)", RefusedCallsTest::busy, x -> x.insert(2, 8, 8, 8, 8), UNKNOWN);
        refused("3 insert(NONE)", RefusedCallsTest::busy, x -> x.insert(NONE, 8, 8, 8, 8), UNKNOWN);
        refused("3 insert, a clash", RefusedCallsTest::busy, x -> x.insert(0, 4, 8, 8, 8), DUPLICATE);
        refused("4 update(2)", RefusedCallsTest::busy, x -> x.update(2, 3, 0, 8), UNKNOWN);
        refused("4 update, field 4", RefusedCallsTest::busy, x -> x.update(0, 3, 4, 8), OUTSIDE);
        refused("4 update, locked", RefusedCallsTest::busy, x -> x.update(0, 2, 0, 8), LOCKED);
        refused("4 update, no image", RefusedCallsTest::busy, x -> x.update(0, 1, 0, 8), UNKNOWN);
        refused("4 update, no place", RefusedCallsTest::busy, x -> x.update(0, 320, 0, 8), UNKNOWN);
        refused("4 update, a clash", RefusedCallsTest::busy, x -> x.update(0, 3, 0, 5), DUPLICATE);
        refused("4 update, the same value", RefusedCallsTest::busy, x -> x.update(0, 3, 0, 4), 0);
        refused("5 remove(2)", RefusedCallsTest::busy, x -> x.remove(2, 3), UNKNOWN);
        refused("5 remove, locked", RefusedCallsTest::busy, x -> x.remove(0, 4), LOCKED);
        refused("5 remove, no image", RefusedCallsTest::busy, x -> x.remove(0, 1), UNKNOWN);
        refused("5 remove, no place", RefusedCallsTest::busy, x -> x.remove(0, -1), UNKNOWN);
        refused("7 undo(2)", RefusedCallsTest::busy, x -> x.undo(2, 0), UNKNOWN);
        refused("7 undo, below 0", RefusedCallsTest::busy, x -> x.undo(0, -1), OUTSIDE);
        refused("7 undo, too many", RefusedCallsTest::busy, x -> x.undo(0, 3), OUTSIDE);
        refused("7 undo, none", RefusedCallsTest::busy, x -> x.undo(0, 2), 0);
        refused("8 commit(2)", RefusedCallsTest::busy, x -> x.commit(2), UNKNOWN);
        refused("9 abort(2)", RefusedCallsTest::busy, x -> x.abort(2), UNKNOWN);
        refused("10 index(0, 0)", RefusedCallsTest::busy, x -> x.index(0, 0, NONE, true), OUTSIDE);
        refused("11 drop(2)", RefusedCallsTest::busy, x -> x.drop(2), UNKNOWN);
        refused("12 step(2)", RefusedCallsTest::busy, x -> x.step(2, 1), UNKNOWN);
        refused("12 step, none", RefusedCallsTest::busy, x -> x.step(1, 0), OUTSIDE);
        refused("12 step, too many", RefusedCallsTest::busy, x -> x.step(1, 1001), OUTSIDE);
        refused("12 step, it is READY", RefusedCallsTest::busy, x -> x.step(0, 1000), 4);
        refused("15 where(4)", RefusedCallsTest::busy, x -> x.where(4, 0, 0), OUTSIDE);
        refused("16 ask(2)", RefusedCallsTest::busy, x -> x.ask(2, 0), UNKNOWN);
        refused("16 ask, BUILDING", RefusedCallsTest::busy, x -> x.ask(0, 2), UNKNOWN);
        refused("16 ask, no index", RefusedCallsTest::busy, x -> x.ask(0, 3), UNKNOWN);
        refused("16 ask, way 7", RefusedCallsTest::busy, x -> x.ask(0, 7), OUTSIDE);
        refused("16 ask, way -2", RefusedCallsTest::busy, x -> x.ask(0, -2), OUTSIDE);
        refused("7 undo, a clash", RefusedCallsTest::moved, x -> x.undo(0, 1), DUPLICATE);
    }

    /** Transaction 0 gave up key 7, transaction 1 took it. */
    private static IndexedTable moved() {
        IndexedTable x = busy();
        x.update(0, 3, 3, 1);
        x.undo(0, 0);
        x.insert(0, 7, 0, 0, 0);
        x.update(0, 5, 0, 8);
        x.insert(1, 7, 0, 0, 0);
        return x;
    }

    private static void nothingElseWhenFull() {
        Due.sentence("4 QUESTIONS", "are told by calls that do nothing else");
        refused("3 insert, no place", RefusedCallsTest::fullOfRows, x -> x.insert(1, 900, 0, 0, 0), ROOM);
        refused("3 insert, no records", RefusedCallsTest::fullOfOthers, x -> x.insert(0, 900, 0, 0, 0), ROOM);
        refused("4 update, no records", RefusedCallsTest::fullOfOthers, x -> x.update(0, 0, 3, 900), ROOM);
        refused("5 remove, no records", RefusedCallsTest::fullOfOthers, x -> x.remove(0, 0), ROOM);
        refused("2 begin, eight", RefusedCallsTest::fullOfOthers, x -> x.begin(), ROOM);
        refused("10 index, six", RefusedCallsTest::fullOfOthers, x -> x.index(2, NONE, NONE, true), ROOM);
    }

    private static void theFirstOne() {
        Due.sentence("4 QUESTIONS", "of several the first one in the order in which a call names them.");
        IndexedTable x = busy();
        Due.is("4 transaction, field", x.update(2, 0, 4, 1), UNKNOWN);
        Due.is("4 transaction, lock", x.update(2, 0, 0, 1), UNKNOWN);
        Due.is("4 field, lock", x.update(0, 2, 4, 1), OUTSIDE);
        Due.is("4 field, place", x.update(0, 320, 4, 1), OUTSIDE);
        Due.is("4 field, no image", x.update(0, 1, -1, 1), OUTSIDE);
        Due.is("4 lock, no image", x.update(1, 1, 0, 1), LOCKED);
        Due.is("4 lock, clash", x.update(0, 2, 0, 4), LOCKED);
        Due.is("5 transaction, lock", x.remove(2, 0), UNKNOWN);
        Due.is("5 transaction, place", x.remove(2, 320), UNKNOWN);
        Due.is("5 lock, no image", x.remove(1, 1), LOCKED);
        Due.is("7 transaction, n", x.undo(2, -1), UNKNOWN);
        Due.is("12 index, n", x.step(2, 0), UNKNOWN);
        Due.is("13 index, what", x.info(2, 14), UNKNOWN);
        Due.is("14 index, what", x.entry(2, 0, 5), UNKNOWN);
        Due.is("14 entry, what", x.entry(0, 99, 5), UNKNOWN);
        Due.is("16 t, way", x.ask(2, 7), UNKNOWN);
        Due.is("21 t, field", x.field(2, 0, 4), UNKNOWN);
        Due.is("21 place, field", x.field(0, 320, 4), UNKNOWN);
    }

    private static void theFirstOneWhenFull() {
        Due.sentence("4 QUESTIONS", "the first one in the order in which a call names them.");
        IndexedTable x = fullOfRows();
        Due.is("3 transaction, place", x.insert(2, 5, 0, 0, 0), UNKNOWN);
        Due.is("3 place, clash", x.insert(1, 5, 0, 0, 0), ROOM);
        Due.is("4 lock, records", x.update(0, 319, 0, 5), LOCKED);
        Due.is("5 lock, records", x.remove(0, 319), LOCKED);
        x = fullOfOthers();
        Due.is("3 records, clash", x.insert(0, 2, 0, 0, 0), ROOM);
        Due.is("4 no image, records", x.update(0, 3, 0, 5), UNKNOWN);
        Due.is("4 no place, records", x.update(0, -1, 0, 5), UNKNOWN);
        Due.is("4 field, records", x.update(0, 0, 4, 5), OUTSIDE);
        Due.is("4 records, clash", x.update(0, 0, 0, 2), ROOM);
        Due.is("5 no image, records", x.remove(0, 3), UNKNOWN);
        Due.is("5 no place, records", x.remove(0, 320), UNKNOWN);
        Due.is("10 fields, room", x.index(0, 0, NONE, false), OUTSIDE);
    }
}
