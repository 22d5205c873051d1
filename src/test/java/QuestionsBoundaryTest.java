import java.io.IOException;

/**
 * The boundary cases of questions, a test for each sentence that names one: section 4 QUESTIONS (but for what it says
 * of refused calls, which RefusedCallsTest holds), promises 15 to 19. Which sentence a test holds is said in its first
 * line.
 */
public final class QuestionsBoundaryTest {
    private static final int NONE = IndexedTable.NONE, UNKNOWN = IndexedTable.UNKNOWN, OUTSIDE = IndexedTable.OUTSIDE;
    private static final int MIN = Integer.MIN_VALUE, MAX = Integer.MAX_VALUE;

    public static void main(String[] args) throws IOException {
        conditions();
        answers();
        ofAllPlaces();
        tellsOnce();
        equalFields();
        nextField();
        lowAboveHigh();
        lowAboveHighBehind();
        costOfScan();
        costOfIndex();
        cheapest();
        sameRowsByEach();
        ownMemory();
        where();
        ask();
        askRefused();
        answer();
        asked();
        cost();
        Due.end(args);
    }

    private static void is(String call, long got, long want) {
        Due.is(call, got, want);
    }

    // ---- section 4 QUESTIONS

    private static void conditions() {
        Due.sentence("4 QUESTIONS", "A CONDITION for each field: from low to high; at first all ints.");
        IndexedTable x = Tables.indexed(false, MIN, MIN + 1, -1, 0, 1, MAX - 1, MAX);
        for (int way = 0; way < 2; way++) {
            is("all ints", x.ask(NONE, way), 7);
            x.where(0, -1, 1);
            is("low and high belong to it", x.ask(NONE, way), 3);
            x.where(0, MIN, MIN);
            is("the least", x.ask(NONE, way), 1);
            is("the least", x.answer(0), 0);
            x.where(0, MAX, MAX);
            is("the greatest", x.ask(NONE, way), 1);
            is("the greatest", x.answer(0), 6);
            x.where(0, MIN + 1, MAX - 1);
            is("all but these", x.ask(NONE, way), 5);
            x.where(0, 2, MAX - 2);
            is("between two", x.ask(NONE, way), 0);
            x.where(0, MIN, MAX);
            is("all ints again", x.ask(NONE, way), 7);
        }
    }

    private static void answers() {
        Due.sentence("4 QUESTIONS", "An ANSWER has the places whose image that is SEEN fits all conditions: by a SCAN in order of places; by a "
            + "READY index in the order of the entries that tell them");
        IndexedTable x = Tables.indexed(false, 5, 3, 4, 3, MIN);
        x.ask(NONE, 0);
        Due.same("in order of places", Tables.answer(x), "0 1 2 3 4");
        x.ask(NONE, 1);
        Due.same("in the order of entries", Tables.answer(x), "4 1 3 2 0");
        x.where(0, 3, 5);
        x.where(1, 30, 40);
        x.ask(NONE, 0);
        Due.same("all conditions", Tables.answer(x), "1 2 3");
        x.ask(NONE, 1);
        Due.same("all conditions, by an index of one field", Tables.answer(x), "1 3 2");
        x.where(3, 1, MAX);
        is("one that no row fits", x.ask(NONE, 0), 0);
        is("one that no row fits", x.ask(NONE, 1), 0);
        Due.same("nothing", Tables.answer(x), "");
        IndexedTable empty = Tables.indexed(true);
        is("an empty table", empty.ask(NONE, 0), 0);
        is("an empty index", empty.ask(NONE, 1), 0);
    }

    private static void ofAllPlaces() {
        Due.sentence("4 QUESTIONS", "An ANSWER has the places whose image that is SEEN fits all conditions");
        IndexedTable x = new IndexedTable();
        x.begin();
        x.begin();
        for (int k = 0; k < 320; k++) {
            x.insert(k / 200, -k, 0, 0, 0);
        }
        x.commit(0);
        x.commit(1);
        x.index(0, NONE, NONE, true);
        x.step(0, 1000);
        is("all 320", x.ask(NONE, 0), 320);
        is("the last", x.answer(319), 319);
        is("behind it", x.answer(320), NONE);
        is("all 320", x.ask(NONE, 1), 320);
        is("the last", x.answer(319), 0);
        is("behind it", x.answer(320), NONE);
        is("all entries", x.asked(1), 320);
    }

    private static void tellsOnce() {
        Due.sentence("4 QUESTIONS", "(an entry tells its place if the image that is seen has its key)");
        IndexedTable x = Tables.indexed(false, 1, 2, 3);
        x.begin();
        x.begin();
        x.update(0, 0, 0, 9);
        x.remove(0, 1);
        x.insert(0, 0, 0, 0, 0);
        is("its own", x.ask(0, 1), 3);
        Due.same("by current entries", Tables.answer(x), "3 2 0");
        is("looked at all entries", x.asked(1), 5);
        is("another's", x.ask(1, 1), 3);
        Due.same("by committed entries", Tables.answer(x), "0 1 2");
        is("nobody", x.ask(NONE, 1), 3);
        Due.same("by committed entries", Tables.answer(x), "0 1 2");
        x.where(0, 9, 9);
        is("an entry that tells nobody anything", x.ask(NONE, 1), 0);
        is("but is looked at", x.asked(1), 1);
        x.update(0, 2, 2, 5);
        x.where(0, 3, 3);
        x.where(2, 5, 5);
        is("one entry for two images that differ elsewhere: its own", x.ask(0, 1), 1);
        is("another's", x.ask(1, 1), 0);
    }

    /** Fields 0, 1, 2 are the digits of 0 .. 26 to the base 3; index 0 is of fields 0, 1, 2, index 1 of 2, 0. */
    private static IndexedTable digits() {
        IndexedTable x = new IndexedTable();
        x.begin();
        for (int k = 0; k < 27; k++) {
            x.insert(0, k / 9, k / 3 % 3, k % 3, 0);
        }
        x.commit(0);
        x.index(0, 1, 2, true);
        x.step(0, 1000);
        x.index(2, 0, NONE, false);
        x.step(1, 1000);
        return x;
    }

    private static void range(String what, IndexedTable x, int first, int second) {
        int fits = x.ask(NONE, 0);
        is(what + ": rows by index 0", x.ask(NONE, 1), fits);
        is(what + ": range of index 0", x.asked(1), first);
        is(what + ": rows by index 1", x.ask(NONE, 2), fits);
        is(what + ": range of index 1", x.asked(1), second);
    }

    private static void equalFields() {
        Due.sentence("4 QUESTIONS", "The RANGE of an index: entries whose first fields are those of conditions with low = high, as many as there "
            + "are at the beginning of its fields");
        IndexedTable x = digits();
        range("none", x, 27, 27);
        x.where(1, 1, 1);
        range("not at the beginning", x, 27, 27);
        x.where(0, 2, 2);
        range("two at the beginning; none at the beginning of the other", x, 3, 27);
        x.where(2, 0, 0);
        range("all fields", x, 1, 3);
        x.where(0, 7, 7);
        range("a value that is not there", x, 0, 0);
        x.where(0, MIN, MAX);
        range("none at the beginning; one at the beginning", x, 27, 9);
    }

    private static void nextField() {
        Due.sentence("4 QUESTIONS", "and whose next field (if there is one) is from low to high.");
        IndexedTable x = digits();
        x.where(0, 1, 2);
        range("the first field", x, 18, 18 + 9);
        x.where(1, 0, 1);
        range("the one behind it does not count", x, 18, 27);
        x.where(2, 2, 2);
        range("nor one with low = high; but for the other index, which begins with it", x, 18, 6);
        x.where(0, 1, 1);
        range("equal, then from low to high", x, 6, 3);
        x.where(1, 1, 1);
        range("no next field", x, 1, 3);
        x.where(2, MIN, 0);
        range("the third from low to high", x, 1, 9);
        x.where(2, 0, MAX);
        range("the third, all of it", x, 3, 27);
        x.where(3, 5, 6);
        range("a field that it has not", x, 3, 27);
    }

    private static void lowAboveHigh() {
        Due.sentence("4 QUESTIONS", "(A condition whose low is above its high: of that field none.)");
        IndexedTable x = digits();
        int[][] wrong = {{1, 0}, {2, 1}, {MAX, MIN}, {MIN + 1, MIN}, {MAX, MAX - 1}};
        for (int[] w : wrong) {
            x.where(0, w[0], w[1]);
            is("by a scan", x.ask(NONE, 0), 0);
            is("by an index", x.ask(NONE, 1), 0);
            is("its range", x.asked(1), 0);
            is("its cost", x.cost(1), 3);
        }
        x.where(0, 1, 1);
        x.where(1, 2, 0);
        range("in the second field", x, 0, 27);
        x.where(1, 2, 2);
        x.where(2, 1, 0);
        range("in the third field", x, 0, 0);
        x.where(2, 1, 1);
        range("no more", x, 1, 3);
    }

    private static void lowAboveHighBehind() {
        Due.sentence("4 QUESTIONS", "of that field none.)");
        IndexedTable x = digits();
        x.where(0, 1, 2);
        x.where(1, 2, 1);
        range("behind the field that counts last", x, 18, 27);
        is("no row", x.ask(NONE, NONE), 0);
        x.where(1, MIN, MAX);
        x.where(3, 1, 0);
        range("in a field of no index", x, 18, 27);
        is("no row", x.ask(NONE, NONE), 0);
    }

    private static void costOfScan() {
        Due.sentence("4 QUESTIONS", "COST: of the SCAN eight times the pages of which some place is not FREE");
        IndexedTable x = new IndexedTable();
        is("an empty table", x.cost(0), 0);
        x.begin();
        x.begin();
        x.insert(0, 0, 0, 0, 0);
        is("one place", x.cost(0), 8);
        for (int k = 1; k < 8; k++) {
            x.insert(0, k, 0, 0, 0);
        }
        is("a whole page", x.cost(0), 8);
        x.insert(0, 8, 0, 0, 0);
        is("a place more", x.cost(0), 16);
        for (int k = 9; k < 320; k++) {
            x.insert(k < 200 ? 0 : 1, k, 0, 0, 0);
        }
        is("all pages", x.cost(0), 320);
        x.where(0, 1, 0);
        is("whatever the conditions", x.cost(0), 320);
        x.undo(1, 119);
        is("a place of the last page is free", x.cost(0), 320);
        x.undo(1, 112);
        is("the last page is free", x.cost(0), 312);
        x.remove(1, 311);
        is("a place without images, but with a writer", x.cost(0), 312);
        x.abort(1);
        x.commit(0);
        is("25 pages", x.cost(0), 200);
    }

    private static void costOfIndex() {
        Due.sentence("4 QUESTIONS", "of a READY index its HEIGHT (nodes from the root to a lowest one) and three times the entries of its RANGE.");
        IndexedTable x = Tables.indexed(false);
        is("an empty one", x.cost(1), 1);
        x.begin();
        int[] due = {4, 7, 10, 13, 17, 20};
        for (int k = 0; k < due.length; k++) {
            x.insert(0, k, 0, 0, 0);
            is("with " + (k + 1), x.cost(1), due[k]);
        }
        x.where(0, 2, 3);
        is("two in its range", x.cost(1), 8);
        x.where(0, 6, MAX);
        is("none in its range", x.cost(1), 2);
        x.commit(0);
        x.begin();
        x.update(0, 0, 0, 6);
        is("entries of what is under way count", x.cost(1), 5);
        x.undo(0, 0);
        is("no more", x.cost(1), 2);
    }

    private static void cheapest() {
        Due.sentence("4 QUESTIONS", "The cheapest way: of several the SCAN, then the least index.");
        IndexedTable x = Tables.indexed(false, Tables.upTo(8));
        x.index(0, NONE, NONE, true);
        x.step(1, 1000);
        x.where(0, 1, 2);
        is("8", x.cost(0), 8);
        is("8", x.cost(1), 8);
        is("8", x.cost(2), 8);
        is("two rows", x.ask(NONE, NONE), 2);
        is("of three the SCAN", x.asked(0), 0);
        x.where(0, 1, 1);
        is("5", x.cost(1), 5);
        is("5", x.cost(2), 5);
        x.ask(NONE, NONE);
        is("of two the least index", x.asked(0), 1);
        x.where(0, 1, 3);
        x.ask(NONE, NONE);
        is("the SCAN is cheaper by three", x.asked(0), 0);
        x.index(0, 1, NONE, false);
        x.where(0, MIN, MAX);
        x.where(1, 30, 30);
        x.ask(NONE, NONE);
        is("the SCAN", x.asked(0), 0);
        x.index(1, NONE, NONE, false);
        x.step(3, 1000);
        x.ask(NONE, NONE);
        is("the last index", x.asked(0), 4);
        x.drop(3);
        x.ask(NONE, NONE);
        is("without it", x.asked(0), 0);
        IndexedTable empty = Tables.indexed(false);
        empty.ask(NONE, NONE);
        is("an empty table: 0 is less than 1", empty.asked(0), 0);
    }

    private static void sameRowsByEach() {
        Due.sentence("What it is", "questions go by the cheapest way, and tell the same rows by each.");
        IndexedTable x = digits();
        x.index(3, NONE, NONE, false);
        x.step(2, 1000);
        x.begin();
        for (int k = 0; k < 27; k += 2) {
            x.update(0, k, k % 3, 3 - k % 4);
        }
        x.remove(0, 1);
        int[][] ranges = {{0, 0}, {1, 2}, {MIN, 1}, {2, MAX}, {3, 3}};
        for (int[] r : ranges) {
            x.where(0, r[0], r[1]);
            x.where(2, 0, 1);
            for (int t = NONE; t <= 0; t++) {
                int rows = x.ask(t, 0);
                for (int way = 1; way <= 3; way++) {
                    is("by way " + way, x.ask(t, way), rows);
                }
                is("by the cheapest", x.ask(t, NONE), rows);
            }
        }
    }

    private static void ownMemory() {
        Due.sentence("4 QUESTIONS", "All memory is the class's own, made once.");
        IndexedTable x = Tables.indexed(true, 1, 2, 3);
        IndexedTable y = Tables.with(7);
        x.where(0, 2, 3);
        x.ask(NONE, 1);
        is("another table has other conditions", y.ask(NONE, 0), 1);
        is("another answer", y.answer(1), NONE);
        is("another way", y.asked(0), 0);
        is("no index", y.info(0, 0), UNKNOWN);
        Due.same("the answer is as it was", Tables.answer(x), "1 2");
        x.begin();
        is("no transaction", y.records(0), UNKNOWN);
        x.remove(0, 1);
        x.commit(0);
        Due.same("an answer is kept", Tables.answer(x), "1 2");
        x.drop(0);
        is("and its way", x.asked(0), 1);
        Due.same("an answer is kept", Tables.answer(x), "1 2");
    }

    // ---- promises 15 to 19

    private static void where() {
        Due.sentence("Promise 15", "A field's CONDITION: 1. OUTSIDE (field).");
        IndexedTable x = Tables.with(1, 2, 3);
        is("the last field", x.where(3, 0, 0), 1);
        is("the first field", x.where(0, MIN, 2), 1);
        for (int f : new int[] {MIN, -1, 4, MAX}) {
            is("where(" + f + ")", x.where(f, 5, 6), OUTSIDE);
        }
        is("as it was", x.ask(NONE, 0), 2);
        is("low above high is no wrong call", x.where(1, MAX, MIN), 1);
        is("none", x.ask(NONE, 0), 0);
        is("another one in its place", x.where(1, 20, 20), 1);
        is("one", x.ask(NONE, 0), 1);
        is("the answer before is as it was till one asks", x.where(1, 1, 0), 1);
        is("the answer before", x.answer(0), 1);
    }

    private static void ask() {
        Due.sentence("Promise 16", "A question by transaction t (NONE: nobody) by a way (NONE the cheapest one, 0 the SCAN, 1 + i index i): how many "
            + "places the ANSWER has.");
        IndexedTable x = Tables.with(2, 1);
        for (int i = 0; i < 6; i++) {
            x.index(0, NONE, NONE, false);
            x.step(i, 1000);
        }
        for (int t = 0; t < 8; t++) {
            x.begin();
        }
        x.remove(7, 0);
        is("the last transaction, the last index", x.ask(7, 6), 1);
        is("its way", x.asked(0), 6);
        is("nobody, the SCAN", x.ask(NONE, 0), 2);
        is("its way", x.asked(0), 0);
        is("nobody, the first index", x.ask(NONE, 1), 2);
        Due.same("by entries", Tables.answer(x), "1 0");
        is("the cheapest", x.ask(0, NONE), 2);
        is("it is the first index: 1 + 6 is less than 8", x.asked(0), 1);
    }

    private static void askRefused() {
        Due.sentence("Promise 16", "UNKNOWN (t; the index, or it is not READY), OUTSIDE (way below NONE, above 6).");
        IndexedTable x = Tables.indexed(false, 1, 2);
        x.index(1, NONE, NONE, false);
        x.index(3, NONE, NONE, true);
        x.step(2, 1000);
        is("FAILED", x.info(2, 0), 5);
        x.ask(NONE, 1);
        for (int t : new int[] {MIN, -2, 0, 7, 8, MAX}) {
            is("ask(" + t + ", 0)", x.ask(t, 0), UNKNOWN);
            is("t goes first", x.ask(t, 7), UNKNOWN);
            is("t goes first", x.ask(t, -2), UNKNOWN);
        }
        for (int way : new int[] {MIN, -2, 7, 8, MAX}) {
            is("ask(NONE, " + way + ")", x.ask(NONE, way), OUTSIDE);
        }
        int[] steps = {0, 1, 39, 1};
        for (int n : steps) {
            if (n > 0) {
                x.step(1, n);
            }
            is("BUILDING", x.ask(NONE, 2), UNKNOWN);
        }
        is("FAILED", x.ask(NONE, 3), UNKNOWN);
        is("none", x.ask(NONE, 4), UNKNOWN);
        is("none, the last", x.ask(NONE, 6), UNKNOWN);
        is("the answer before", x.asked(0), 1);
        Due.same("the answer before", Tables.answer(x), "0 1");
        x.step(1, 1);
        is("READY", x.ask(NONE, 2), 2);
    }

    private static void answer() {
        Due.sentence("Promise 17", "Of the latest answer: its k-th place; NONE.");
        IndexedTable x = Tables.with(1, 2, 3);
        is("without one", x.answer(0), NONE);
        x.where(0, 2, 3);
        x.ask(NONE, 0);
        is("the first", x.answer(0), 1);
        is("the last", x.answer(1), 2);
        for (int k : new int[] {MIN, -1, 2, 3, 319, 320, MAX}) {
            is("answer(" + k + ")", x.answer(k), NONE);
        }
        x.where(0, 9, 9);
        x.ask(NONE, 0);
        is("an empty one", x.answer(0), NONE);
        is("nothing of the one before", x.answer(1), NONE);
    }

    private static void asked() {
        Due.sentence("Promise 18", "what = 0 the way (0, 1 + i; NONE without one), 1 how much was looked at: 320 by a SCAN, by an index the entries of "
            + "its RANGE; 0 without. OUTSIDE.");
        IndexedTable x = Tables.indexed(false, 1, 2, 3);
        is("without one", x.asked(0), NONE);
        is("without one", x.asked(1), 0);
        for (int what : new int[] {MIN, -1, 2, MAX}) {
            is("asked(" + what + ")", x.asked(what), OUTSIDE);
        }
        x.ask(NONE, 0);
        is("the SCAN", x.asked(0), 0);
        is("all places, free or not", x.asked(1), 320);
        x.where(0, 2, MAX);
        x.where(1, 30, 30);
        is("one row", x.ask(NONE, 1), 1);
        is("the index", x.asked(0), 1);
        is("its range", x.asked(1), 2);
        x.where(0, 4, MAX);
        x.ask(NONE, 1);
        is("an empty range", x.asked(1), 0);
        is("with a way", x.asked(0), 1);
        x.ask(NONE, 7);
        is("a refused question is none", x.asked(0), 1);
        for (int what : new int[] {MIN, -1, 2, MAX}) {
            is("asked(" + what + ")", x.asked(what), OUTSIDE);
        }
    }

    private static void cost() {
        Due.sentence("Promise 19", "The COST of a way (0, 1 + i). UNKNOWN (the index, or it is not READY), OUTSIDE (another way).");
        IndexedTable x = Tables.with(1, 1);
        for (int i = 0; i < 6; i++) {
            x.index(0, NONE, NONE, i == 1);
        }
        for (int way = 1; way <= 6; way++) {
            is("BUILDING", x.cost(way), UNKNOWN);
        }
        x.step(1, 1000);
        is("FAILED", x.cost(2), UNKNOWN);
        x.step(5, 41);
        is("BUILDING, with entries", x.cost(6), UNKNOWN);
        x.step(5, 1);
        is("READY, the last", x.cost(6), 7);
        x.drop(5);
        is("none", x.cost(6), UNKNOWN);
        for (int way : new int[] {MIN, -2, NONE, 7, 8, MAX}) {
            is("cost(" + way + ")", x.cost(way), OUTSIDE);
        }
        is("the SCAN", x.cost(0), 8);
    }
}
