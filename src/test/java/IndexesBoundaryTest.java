import java.io.IOException;

/**
 * The boundary cases of indexes, a test for each sentence that names one: section 2 INDEXES (its sentences on the
 * tree's shape are held by TreeTest), promises 10, 11, 14 and 24. Which sentence a test holds is said in its first line.
 */
public final class IndexesBoundaryTest {
    private static final int NONE = IndexedTable.NONE, UNKNOWN = IndexedTable.UNKNOWN, OUTSIDE = IndexedTable.OUTSIDE,
        ROOM = IndexedTable.ROOM, DUPLICATE = IndexedTable.DUPLICATE;
    private static final int MIN = Integer.MIN_VALUE, MAX = Integer.MAX_VALUE;
    private static final int[] NO_INDEX = {MIN, -2, -1, 6, 7, MAX};

    public static void main(String[] args) throws IOException {
        numbers();
        order();
        alike();
        comesThenGoes();
        clash();
        clashOfOneWriter();
        clashOfNoWriter();
        indexNumber();
        indexFields();
        indexRoom();
        drop();
        dropInEachState();
        entry();
        entryKey();
        entryDepth();
        entryRefused();
        audit();
        auditOfOthers();
        Due.end(args);
    }

    private static void is(String call, long got, long want) {
        Due.is(call, got, want);
    }

    // ---- section 2 INDEXES

    private static void numbers() {
        Due.sentence("2 INDEXES", "0 .. 5: one to three different fields in order, which make a KEY of an image; unique or not.");
        IndexedTable x = Tables.with(3, 1, 2);
        for (int i = 0; i < 6; i++) {
            is("index", x.index(i % 4, i < 2 ? NONE : (i + 1) % 4, i < 4 ? NONE : (i + 3) % 4, i == 5), i);
        }
        is("the last", x.step(5, 1000), 4);
        is("its fields", x.info(5, 2), 3);
        is("unique", x.info(5, 1), 1);
        is("the first", x.step(0, 1000), 4);
        is("its field", x.info(0, 2), 1);
        is("not unique", x.info(0, 1), 0);
        is("two fields", x.info(3, 2), 2);
        is("fields in order", x.info(3, 3), 3);
        is("fields in order", x.info(3, 4), 0);
        is("by the last index", x.ask(NONE, 6), 3);
        is("by the first index", x.ask(NONE, 1), 3);
    }

    private static void order() {
        Due.sentence("2 INDEXES", "entries are ordered by keys, field by field, then by places.");
        int[] keys = {0, MAX, MIN, -1, 1, MIN + 1, MAX - 1, MIN, MAX, 0};
        IndexedTable x = new IndexedTable();
        x.begin();
        for (int key : keys) {
            x.insert(0, 7, key, 7, 0);
        }
        x.insert(0, 7, 0, 6, 0);
        x.insert(0, 6, MAX, 8, 0);
        x.insert(0, 8, MIN, 8, 0);
        x.index(0, 1, 2, false);
        x.step(0, 1000);
        int[] places = {11, 2, 7, 5, 3, 10, 0, 9, 4, 6, 1, 8, 12};
        is("all of them", x.info(0, 6), places.length);
        for (int p = 0; p < places.length; p++) {
            is("entry(0, " + p + ", 0)", x.entry(0, p, 0), places[p]);
        }
    }

    private static void alike() {
        Due.sentence("2 INDEXES", "A place HAS the entries of its committed and its current image (one, if they are alike).");
        IndexedTable x = Tables.indexed(false, 1, 2, 3);
        x.begin();
        x.update(0, 0, 1, 99);
        is("images that differ, but not in the key", x.info(0, 6), 3);
        x.update(0, 0, 0, 9);
        is("two", x.info(0, 6), 4);
        x.update(0, 0, 0, 1);
        is("alike again", x.info(0, 6), 3);
        x.remove(0, 1);
        is("the committed one alone", x.info(0, 6), 3);
        x.insert(0, 4, 4, 4, 4);
        is("the current one alone", x.info(0, 6), 4);
        x.remove(0, 3);
        is("none", x.info(0, 6), 3);
        is("audit", x.audit(), 0);
    }

    private static void comesThenGoes() {
        Due.sentence("2 INDEXES", "Whenever what it has changes, by one write, one undoing, one place of a commit: an entry that it "
            + "had not before COMES, then one that it has no more GOES.");
        // The log tells how many came and went; a step of CATCH takes the first of them.
        IndexedTable x = Tables.building(false, 41, 1, 2);
        x.begin();
        is("the log", x.info(0, 9), 0);
        x.update(0, 0, 0, 5);
        is("5 comes", x.info(0, 9), 1);
        x.update(0, 0, 0, 6);
        is("6 comes, 5 goes", x.info(0, 9), 3);
        x.update(0, 0, 3, 8);
        is("neither", x.info(0, 9), 3);
        x.undo(0, 2);
        is("neither", x.info(0, 9), 3);
        x.undo(0, 1);
        is("5 comes, 6 goes", x.info(0, 9), 5);
        x.step(0, 2);
        Due.same("it comes first", Tables.entries(x, 0), "1@0 2@1 5@0 6@0");
        x.step(0, 1);
        Due.same("then it goes", Tables.entries(x, 0), "1@0 2@1 6@0");
        x.step(0, 2);
        Due.same("the same of an undoing", Tables.entries(x, 0), "1@0 2@1 5@0");
        x.remove(0, 1);
        is("a removed row has its committed entry still", x.info(0, 9), 0);
        x.insert(0, 9, 0, 0, 0);
        is("9 comes", x.info(0, 9), 1);
        x.remove(0, 2);
        is("9 goes", x.info(0, 9), 2);
        x.commit(0);
        is("1 goes, 2 goes", x.info(0, 9), 4);
        is("all are taken", x.step(0, 5), 4);
        Due.same("what is left", Tables.entries(x, 0), "5@0");
    }

    private static void clash() {
        Due.sentence("2 INDEXES", "CLASH: two places have one key: of a committed or current image each");
        // Place 0 has 1 committed and 2 current, by transaction 0; transaction 1 writes place 1.
        int[] inserted = {DUPLICATE, DUPLICATE, DUPLICATE, 2};
        int[] updated = {DUPLICATE, DUPLICATE, 0, 1};
        for (int k = 0; k < 4; k++) {
            IndexedTable x = Tables.indexed(true, 1, 3);
            x.begin();
            x.begin();
            x.update(0, 0, 0, 2);
            is("a new row with key " + (k + 1), x.insert(1, k + 1, 0, 0, 0), inserted[k]);
            x.undo(1, 0);
            is("place 1 with key " + (k + 1), x.update(1, 1, 0, k + 1), updated[k]);
        }
        IndexedTable x = Tables.building(true, 41, 1, 2);
        x.begin();
        x.begin();
        x.update(0, 0, 0, 3);
        x.update(1, 1, 0, 4);
        is("no two", x.step(0, 1000), 4);
        is("committed, that another gives up", x.update(1, 1, 0, 1), DUPLICATE);
        is("current, that another takes", x.update(1, 1, 0, 3), DUPLICATE);
        is("its own committed one", x.update(1, 1, 0, 2), 1);
        x = Tables.building(true, 41, 1, 1);
        x.begin();
        x.begin();
        x.update(0, 0, 0, 3);
        x.update(1, 1, 0, 4);
        is("committed and committed", x.step(0, 1000), 5);
    }

    private static void clashOfOneWriter() {
        Due.sentence("2 INDEXES", "but of two places with one writer (no NONE) current images count against current ones alone, "
            + "committed ones against committed ones.");
        IndexedTable x = Tables.indexed(true, 1, 2);
        x.begin();
        is("taken", x.update(0, 0, 0, 2), DUPLICATE);
        is("out of the way", x.update(0, 1, 0, 3), 1);
        is("what its other place gave up", x.update(0, 0, 0, 2), 1);
        is("what its first place gave up", x.update(0, 1, 0, 1), 1);
        is("they changed their keys", x.audit(), 0);
        is("current against current", x.insert(0, 1, 0, 0, 0), DUPLICATE);
        is("current against current", x.update(0, 1, 0, 2), DUPLICATE);
        is("two places", x.commit(0), 2);
        Due.same("two entries", Tables.entries(x, 0), "1@1 2@0");
        is("audit", x.audit(), 0);
        x = Tables.building(true, 41, 1, 2);
        x.begin();
        x.update(0, 0, 0, 3);
        x.step(0, 1000);
        is("what was given up before it was READY", x.insert(0, 1, 0, 0, 0), 2);
        is("committed against current, of two writers", x.begin(), 1);
        is("is a clash", x.update(1, 1, 0, 1), DUPLICATE);
        x = Tables.building(true, 41, 1, 1);
        x.begin();
        x.update(0, 0, 0, 3);
        x.update(0, 1, 0, 4);
        is("committed against committed", x.step(0, 1000), 5);
        is("the least", x.info(0, 12), 0);
        is("the other", x.info(0, 13), 1);
    }

    private static void clashOfNoWriter() {
        Due.sentence("2 INDEXES", "(no NONE)");
        IndexedTable x = Tables.building(true, 0, 1, 1);
        is("no writer is no common writer", x.step(0, 1000), 5);
        x = Tables.indexed(true, 1, 2);
        x.begin();
        is("a place without a writer, and one with", x.update(0, 0, 0, 2), DUPLICATE);
        x.update(0, 0, 0, 3);
        is("a place with a writer, a new one of another", x.begin(), 1);
        is("its committed key", x.insert(1, 1, 0, 0, 0), DUPLICATE);
        is("for itself", x.insert(0, 1, 0, 0, 0), 2);
    }

    // ---- promises 10 and 11

    private static void indexNumber() {
        Due.sentence("Promise 10", "its number, the least that is free; it is BUILDING, SCAN, page 0.");
        IndexedTable x = Tables.indexed(true, 1, 2, 3);
        is("the next", x.index(1, NONE, NONE, false), 1);
        x.step(1, 20);
        x.drop(0);
        is("the least", x.index(2, 1, NONE, false), 0);
        is("SCAN", x.info(0, 0), 1);
        is("page 0", x.info(0, 10), 0);
        is("no entries of the one before", x.info(0, 6), 0);
        is("not unique", x.info(0, 1), 0);
        x.drop(1);
        is("the least", x.index(3, NONE, NONE, false), 1);
        is("page 0, not 20", x.info(1, 10), 0);
    }

    private static void indexFields() {
        Due.sentence("Promise 10", "An index of one to three fields (NONE behind the last)");
        int[] some = {MIN, -2, NONE, 0, 1, 2, 3, 4, MAX};
        for (int first : some) {
            for (int second : some) {
                for (int third : some) {
                    is("index(" + first + ", " + second + ", " + third + ")",
                        new IndexedTable().index(first, second, third, false), due(first, second, third));
                }
            }
        }
        IndexedTable x = new IndexedTable();
        is("all three, downwards", x.index(3, 2, 1, true), 0);
        is("the third", x.info(0, 5), 1);
        is("two", x.index(3, 2, NONE, true), 1);
        is("no third", x.info(1, 5), NONE);
        is("one", x.index(3, NONE, NONE, true), 2);
        is("no second", x.info(2, 4), NONE);
        is("no third", x.info(2, 5), NONE);
    }

    /** What a table without indexes has to answer: the first one's number, or OUTSIDE. */
    private static int due(int first, int second, int third) {
        boolean one = first >= 0 && first <= 3;
        boolean two = second >= 0 && second <= 3 && second != first;
        boolean three = third >= 0 && third <= 3 && third != first && third != second;
        boolean right = one && (second == NONE ? third == NONE : two && (third == NONE || three));
        return right ? 0 : OUTSIDE;
    }

    private static void indexRoom() {
        Due.sentence("Promise 10", "OUTSIDE (fields), ROOM.");
        IndexedTable x = new IndexedTable();
        for (int i = 0; i < 6; i++) {
            is("index", x.index(0, NONE, NONE, false), i);
        }
        is("a seventh", x.index(0, NONE, NONE, false), ROOM);
        is("its fields go first", x.index(4, NONE, NONE, false), OUTSIDE);
        is("its fields go first", x.index(0, 0, NONE, false), OUTSIDE);
        is("its fields go first", x.index(0, NONE, 1, false), OUTSIDE);
        is("six", x.count(2), 6);
        x.drop(5);
        is("the last again", x.index(0, NONE, NONE, false), 5);
        is("full again", x.index(0, NONE, NONE, false), ROOM);
    }

    private static void drop() {
        Due.sentence("Promise 11", "An index is gone: 1. UNKNOWN.");
        IndexedTable x = Tables.indexed(true, 1, 2, 3);
        for (int i : NO_INDEX) {
            is("drop(" + i + ")", x.drop(i), UNKNOWN);
        }
        is("none", x.drop(1), UNKNOWN);
        is("the last one, none", x.drop(5), UNKNOWN);
        is("drop", x.drop(0), 1);
        is("again", x.drop(0), UNKNOWN);
        is("no info", x.info(0, 0), UNKNOWN);
        is("no entry", x.entry(0, 0, 0), UNKNOWN);
        is("no step", x.step(0, 1), UNKNOWN);
        is("no way", x.ask(NONE, 1), UNKNOWN);
        is("no cost", x.cost(1), UNKNOWN);
        is("none", x.count(2), 0);
        is("none is READY", x.count(3), 0);
        x.begin();
        is("it forbids nothing", x.insert(0, 1, 1, 1, 1), 3);
        is("audit", x.audit(), 0);
    }

    private static void dropInEachState() {
        Due.sentence("Promise 11", "An index is gone: 1.");
        for (int steps : new int[] {0, 20, 40, 41, 42}) {
            IndexedTable x = Tables.building(true, steps, 1, 1);
            is("drop", x.drop(0), 1);
            x.begin();
            x.update(0, 0, 1, 5);
            is("the next one", x.index(1, NONE, NONE, false), 0);
            is("has no log", x.info(0, 9), 0);
            is("has not failed", x.info(0, 11), 0);
            is("has no clash", x.info(0, 12), NONE);
            is("has no clash", x.info(0, 13), NONE);
            is("is built from its beginning", x.step(0, 40), 2);
            is("to its end", x.step(0, 1000), 4);
            Due.same("with all entries, and no others", Tables.entries(x, 0), "5@0 10@0 10@1");
            is("audit", x.audit(), 0);
        }
        IndexedTable x = Tables.indexed(false, 1, 2);
        Due.same("entries", Tables.entries(x, 0), "1@0 2@1");
        x.drop(0);
        x.begin();
        x.remove(0, 0);
        x.remove(0, 1);
        x.commit(0);
        x.index(0, NONE, NONE, false);
        is("of an empty table", x.step(0, 1000), 4);
        Due.same("nothing of the one before", Tables.entries(x, 0), "");
        is("audit", x.audit(), 0);
    }

    // ---- promise 14

    private static void entry() {
        Due.sentence("Promise 14", "The p-th entry (from 0) of its tree: what = 0 its place");
        IndexedTable x = Tables.indexed(false, Tables.upTo(200));
        is("the first", x.entry(0, 0, 0), 0);
        is("the last", x.entry(0, 199, 0), 199);
        is("behind the last", x.entry(0, 200, 0), UNKNOWN);
        is("before the first", x.entry(0, -1, 0), UNKNOWN);
        x.begin();
        x.update(0, 0, 0, MAX);
        is("one more", x.entry(0, 200, 0), 0);
        is("its key", x.entry(0, 200, 1), MAX);
        x.undo(0, 0);
        is("gone", x.entry(0, 200, 0), UNKNOWN);
    }

    private static void entryKey() {
        Due.sentence("Promise 14", "1 .. 3 the fields of its key (0 for one that it has not)");
        IndexedTable x = new IndexedTable();
        x.begin();
        x.insert(0, MIN, MAX, -1, 7);
        int[][] fields = {{2, NONE, NONE}, {1, 0, NONE}, {3, 2, 1}};
        int[][] keys = {{-1, 0, 0}, {MAX, MIN, 0}, {7, -1, MAX}};
        for (int i = 0; i < 3; i++) {
            x.index(fields[i][0], fields[i][1], fields[i][2], false);
            x.step(i, 1000);
            for (int what = 1; what <= 3; what++) {
                is("entry(" + i + ", 0, " + what + ")", x.entry(i, 0, what), keys[i][what - 1]);
            }
        }
    }

    private static void entryDepth() {
        Due.sentence("Promise 14", "4 how many nodes are above its node.");
        IndexedTable x = Tables.grown(1, 2, 3, 4);
        is("the root", x.entry(0, 3, 4), 0);
        x.insert(0, 5, 0, 0, 0);
        is("the root", x.entry(0, 2, 4), 0);
        is("below it", x.entry(0, 0, 4), 1);
        is("below it", x.entry(0, 4, 4), 1);
        x = Tables.grown(Tables.upTo(17));
        is("two below", x.entry(0, 0, 4), 2);
        is("one below", x.entry(0, 2, 4), 1);
        is("the root", x.entry(0, 8, 4), 0);
    }

    private static void entryRefused() {
        Due.sentence("Promise 14", "UNKNOWN (index, entry), OUTSIDE (what).");
        IndexedTable x = Tables.indexed(true, 1, 2);
        x.index(1, NONE, NONE, false);
        for (int i : NO_INDEX) {
            is("entry(" + i + ", 0, 0)", x.entry(i, 0, 0), UNKNOWN);
            is("the index goes first", x.entry(i, 0, 5), UNKNOWN);
        }
        for (int p : new int[] {MIN, -1, 2, 3, MAX}) {
            is("entry(0, " + p + ", 0)", x.entry(0, p, 0), UNKNOWN);
            is("the entry goes first", x.entry(0, p, 5), UNKNOWN);
        }
        for (int what : new int[] {MIN, -1, 5, MAX}) {
            is("entry(0, 1, " + what + ")", x.entry(0, 1, what), OUTSIDE);
        }
        is("nothing is in it yet", x.entry(1, 0, 0), UNKNOWN);
        x.step(1, 41);
        is("it is not ready, but has entries", x.entry(1, 1, 0), 1);
        x = Tables.indexed(false, 1, 1);
        x.index(0, NONE, NONE, true);
        x.step(1, 1000);
        is("a failed one has none", x.entry(1, 0, 0), UNKNOWN);
    }

    // ---- promise 24

    private static void audit() {
        Due.sentence("Promise 24", "How many of these are not so (it is always 0): each READY index has just the entries that places "
            + "have, in order");
        is("an empty table", new IndexedTable().audit(), 0);
        IndexedTable x = Tables.indexed(true);
        is("an empty index", x.audit(), 0);
        x.index(1, 0, NONE, false);
        x.step(1, 1000);
        x.begin();
        x.begin();
        for (int k = 0; k < 60; k++) {
            x.insert(k % 2, (k * 37) % 60, k % 3, 0, 0);
            is("it grows", x.audit(), 0);
        }
        x.commit(0);
        is("committed", x.audit(), 0);
        x.begin();
        for (int k = 0; k < 60; k += 4) {
            x.remove(0, k);
            x.update(0, k + 2, 0, 100 + k);
            is("it changes", x.audit(), 0);
        }
        x.undo(0, 7);
        is("undone", x.audit(), 0);
        x.abort(1);
        is("aborted", x.audit(), 0);
        x.commit(0);
        is("committed", x.audit(), 0);
        is("those that are left", x.info(0, 6), x.ask(NONE, 0));
        is("those that are left", x.info(1, 6), x.ask(NONE, 0));
    }

    private static void auditOfOthers() {
        Due.sentence("Promise 24", "no READY unique index has a CLASH.");
        IndexedTable x = Tables.with(1, 1, 1);
        x.index(0, NONE, NONE, false);
        x.step(0, 1000);
        is("not unique: no clash is counted", x.audit(), 0);
        x.index(0, NONE, NONE, true);
        is("building", x.audit(), 0);
        x.step(1, 41);
        is("building, with entries", x.audit(), 0);
        x.begin();
        x.update(0, 0, 0, 5);
        is("building, with a log", x.audit(), 0);
        x.step(1, 1000);
        is("failed", x.audit(), 0);
    }
}
