import java.io.IOException;
import java.util.function.Consumer;

/**
 * The boundary cases of building, a test for each sentence that names one: section 3 BUILDING, promises 12 and 13.
 * Which sentence a test holds is said in its first line.
 */
public final class BuildingBoundaryTest {
    private static final int NONE = IndexedTable.NONE, UNKNOWN = IndexedTable.UNKNOWN, OUTSIDE = IndexedTable.OUTSIDE,
        DUPLICATE = IndexedTable.DUPLICATE;
    private static final int MIN = Integer.MIN_VALUE, MAX = Integer.MAX_VALUE;
    private static final int SCAN = 1, LOAD = 2, CATCH = 3, READY = 4, FAILED = 5;
    private static final int[] NO_INDEX = {MIN, -2, -1, 6, 7, MAX};

    public static void main(String[] args) throws IOException {
        states();
        logAtMost();
        logInARing();
        scannedAlready();
        scanPages();
        scanPicks();
        loadSixteen();
        loadOrder();
        catchFirst();
        catchTwice();
        emptyLog();
        clashAtTheEnd();
        clashThatIsGone();
        clashBesideOthers();
        clashOfWholeKeys();
        placesAreTold();
        overflowInAllThree();
        overflowAtOnce();
        overflowByEachCall();
        failedHasNone();
        duplicateOnlyWhenReady();
        duplicateIsNotDone();
        steps();
        stepRefused();
        infoOfStates();
        infoOfFields();
        infoOfFailures();
        infoRefused();
        Due.end(args);
    }

    private static void is(String call, long got, long want) {
        Due.is(call, got, want);
    }

    // ---- section 3 BUILDING

    private static void states() {
        Due.sentence("3 BUILDING", "An index that is made is BUILDING: 1 SCAN, 2 LOAD, 3 CATCH; then it is 4 READY, or 5 FAILED.");
        IndexedTable x = new IndexedTable();
        x.index(0, NONE, NONE, false);
        is("made", x.info(0, 0), SCAN);
        is("also in an empty table", x.step(0, 39), SCAN);
        is("LOAD", x.step(0, 1), LOAD);
        is("CATCH", x.step(0, 1), CATCH);
        is("READY", x.step(0, 1), READY);
        x = Tables.building(true, 0, 5, 5);
        is("SCAN", x.step(0, 39), SCAN);
        is("LOAD", x.step(0, 1), LOAD);
        is("CATCH", x.step(0, 1), CATCH);
        is("FAILED", x.step(0, 1), FAILED);
        is("it stays", x.step(0, 1000), FAILED);
    }

    /** Eight rows, the index so far; transaction 0 has written till the log has 300. */
    private static IndexedTable fullLog(boolean unique, int steps) {
        IndexedTable x = Tables.building(unique, steps, Tables.upTo(8));
        x.begin();
        for (int k = 0; k < 154; k++) {
            x.update(0, k % 8, 0, 100 + k);
        }
        is("the log", x.info(0, 9), 300);
        return x;
    }

    private static void logAtMost() {
        Due.sentence("3 BUILDING", "Beside it is a LOG of 300 at most");
        IndexedTable x = fullLog(false, 40);
        is("300 are no failure", x.info(0, 0), LOAD);
        is("no room for more, but none is needed", x.update(0, 0, 3, 1), 1);
        is("still", x.info(0, 9), 300);
        is("all are taken", x.step(0, 1 + 300), CATCH);
        is("it is used up", x.info(0, 9), 0);
        is("READY", x.step(0, 1), READY);
        is("both images of eight", x.info(0, 6), 16);
        is("audit", x.audit(), 0);
        x = fullLog(false, 40);
        is("one more", x.insert(0, 200, 0, 0, 0), 8);
        is("FAILED", x.info(0, 0), FAILED);
    }

    private static void logInARing() {
        Due.sentence("3 BUILDING", "a LOG of 300 at most: entries that came or went (in this order)");
        // More than 300 in all, never more than 300 at once: what was taken makes room.
        IndexedTable x = fullLog(false, 41);
        is("120 are taken", x.step(0, 120), CATCH);
        is("180 are left", x.info(0, 9), 180);
        x.undo(0, 114);
        is("80 more, by undoing", x.info(0, 9), 260);
        for (int k = 0; k < 20; k++) {
            x.update(0, k % 8, 0, 1000 + k);
        }
        is("full again", x.info(0, 9), 300);
        is("no failure", x.info(0, 0), CATCH);
        is("taken in their order", x.step(0, 300), CATCH);
        is("READY", x.step(0, 1), READY);
        Due.same("the entries", Tables.entries(x, 0), "0@0 1@1 2@2 3@3 4@4 5@5 6@6 7@7 "
            + "1012@4 1013@5 1014@6 1015@7 1016@0 1017@1 1018@2 1019@3");
        is("audit", x.audit(), 0);
    }

    private static void scannedAlready() {
        Due.sentence("3 BUILDING", "of places that were scanned already, since it was made.");
        IndexedTable x = Tables.with(Tables.upTo(17));
        x.begin();
        x.update(0, 0, 0, 50);
        x.index(0, NONE, NONE, false);
        is("nothing from before it was made", x.info(0, 9), 0);
        x.update(0, 0, 0, 51);
        is("no page was scanned", x.info(0, 9), 0);
        x.step(0, 1);
        x.update(0, 8, 0, 58);
        is("the first place of the next page", x.info(0, 9), 0);
        x.update(0, 7, 0, 57);
        is("the last place of the page", x.info(0, 9), 1);
        x.update(0, 0, 0, 52);
        is("the first place of the page", x.info(0, 9), 3);
        x.step(0, 1);
        x.update(0, 15, 0, 65);
        is("the last place of the second page", x.info(0, 9), 4);
        x.update(0, 16, 0, 66);
        is("the first place of the third one", x.info(0, 9), 4);
        is("READY", x.step(0, 1000), READY);
        is("audit", x.audit(), 0);
        is("both images of five", x.info(0, 6), 17 + 5);
    }

    private static void scanPages() {
        Due.sentence("3 BUILDING", "SCAN: the next page (0 at first)");
        IndexedTable x = Tables.building(false, 0, 1);
        for (int page = 0; page < 40; page++) {
            is("the next page", x.info(0, 10), page);
            is("a step", x.step(0, 1), page < 39 ? SCAN : LOAD);
        }
        is("behind all", x.info(0, 10), 40);
        x.step(0, 1000);
        is("behind all", x.info(0, 10), 40);
    }

    private static void scanPicks() {
        Due.sentence("3 BUILDING", "all entries that its places have are PICKED; behind page 39 it is LOAD.");
        IndexedTable x = new IndexedTable();
        x.begin();
        x.begin();
        for (int k = 0; k < 320; k++) {
            x.insert(k / 200, k, 0, 0, 0);
        }
        x.commit(1);
        x.begin();
        x.update(1, 312, 0, -312);
        x.update(1, 319, 0, -319);
        x.remove(1, 318);
        x.index(0, NONE, NONE, false);
        is("39 pages", x.step(0, 39), SCAN);
        x.update(1, 311, 0, -311);
        x.update(1, 313, 0, -313);
        is("the page that was scanned", x.info(0, 9), 1);
        is("the last page", x.step(0, 1), LOAD);
        is("nothing is in the tree", x.info(0, 6), 0);
        is("323: twenty times sixteen, then three", x.step(0, 20), LOAD);
        is("so far", x.info(0, 6), 320);
        is("the rest", x.step(0, 1), CATCH);
        is("both images of three, the committed one of another", x.info(0, 6), 323);
        Due.same("the first", x.entry(0, 0, 0) + " " + x.entry(0, 1, 0) + " " + x.entry(0, 2, 0), "319 313 312");
        is("the log", x.step(0, 2), READY);
        is("and what it had", x.info(0, 6), 324);
        is("audit", x.audit(), 0);
    }

    private static void loadSixteen() {
        Due.sentence("3 BUILDING", "LOAD: of what was picked the next sixteen (in the order of entries) come to the tree, which is empty at "
            + "first (fewer, if there are no more: then it is CATCH).");
        int[] rows = {0, 1, 15, 16, 17, 31, 32, 33};
        for (int n : rows) {
            IndexedTable x = Tables.building(false, 40, Tables.upTo(n));
            is("empty at first", x.info(0, 6), 0);
            int left = n;
            while (left >= 16) {
                is("of " + n + " sixteen", x.step(0, 1), LOAD);
                left -= 16;
                is("of " + n + " so many", x.info(0, 6), n - left);
            }
            is("of " + n + " fewer", x.step(0, 1), CATCH);
            is("all " + n, x.info(0, 6), n);
            is("READY", x.step(0, 1), READY);
        }
    }

    private static void loadOrder() {
        Due.sentence("3 BUILDING", "(in the order of entries)");
        IndexedTable x = Tables.building(false, 41, 50, 20, 90, 10, 80, 30, MAX, 40, 60, 0, 15, 25, 35, 45, 55, 65, MIN);
        is("the least comes first, though its place is the last", x.entry(0, 0, 0), 16);
        is("the sixteenth", x.entry(0, 15, 1), 90);
        is("the greatest has not come", x.info(0, 6), 16);
        x.step(0, 1);
        Due.same("the shape of coming in order", Tables.picture(x), MIN + "/2 0/2 10/1 15/2 20/2 25/1 30/2 35/2 40/0 45/2 50/2 55/1 "
            + "60/2 65/2 80/1 90/2 " + MAX + "/2");
    }

    private static void catchFirst() {
        Due.sentence("3 BUILDING", "CATCH: the first of the log: what came comes to the tree, if it is not there; what went goes, if it is "
            + "there; it is out of the log.");
        IndexedTable x = Tables.building(false, 41, 1, 2);
        x.begin();
        x.update(0, 0, 0, 3);
        x.update(0, 0, 0, 4);
        is("three", x.info(0, 9), 3);
        String[] due = {"1@0 2@1 3@0", "1@0 2@1 3@0 4@0", "1@0 2@1 4@0"};
        for (int k = 0; k < 3; k++) {
            is("a step", x.step(0, 1), CATCH);
            Due.same("entries", Tables.entries(x, 0), due[k]);
            is("it is out of the log", x.info(0, 9), 2 - k);
        }
        x.update(0, 0, 0, 1);
        is("4 goes alone", x.info(0, 9), 1);
        is("in one step", x.step(0, 1), CATCH);
        Due.same("entries", Tables.entries(x, 0), "1@0 2@1");
        is("READY", x.step(0, 1), READY);
    }

    private static void catchTwice() {
        Due.sentence("3 BUILDING", "what came comes to the tree, if it is not there; what went goes, if it is there");
        // One entry comes, goes, comes and goes again: each time it is there, or not, as it has to be.
        IndexedTable x = Tables.building(false, 1, 1, 2);
        x.begin();
        for (int k = 0; k < 10; k++) {
            x.insert(0, 7, 0, 0, 0);
            x.remove(0, 2);
            x.undo(0, 0);
            x.update(0, 1, 0, 7);
            x.undo(0, 0);
        }
        is("each time it came and went: by two rows and an undoing", x.info(0, 9), 60);
        is("CATCH", x.step(0, 40), CATCH);
        for (int k = 0; k < 60; k++) {
            x.step(0, 1);
            is("there, or not", x.info(0, 6), k % 2 == 0 ? 3 : 2);
        }
        is("READY", x.step(0, 1), READY);
        Due.same("entries", Tables.entries(x, 0), "1@0 2@1");
    }

    private static void emptyLog() {
        Due.sentence("3 BUILDING", "If the log is empty: READY");
        IndexedTable x = Tables.building(false, 41, 1, 2);
        is("empty from the beginning", x.step(0, 1), READY);
        x = Tables.building(false, 41, 1, 2);
        x.begin();
        x.update(0, 0, 0, 5);
        is("the only one of the log", x.step(0, 1), CATCH);
        x.update(0, 0, 0, 6);
        is("it is not empty again", x.step(0, 2), CATCH);
        is("now it is", x.info(0, 9), 0);
        is("READY", x.step(0, 1), READY);
        x.update(0, 0, 0, 7);
        is("no log any more", x.info(0, 9), 0);
        Due.same("at once in the tree", Tables.entries(x, 0), "1@0 2@1 7@0");
    }

    private static void clashAtTheEnd() {
        Due.sentence("3 BUILDING", "but if it is unique, and there is a CLASH for its key: FAILED for 1");
        IndexedTable x = Tables.building(true, 0, 1, 1);
        is("not before the log is empty", x.step(0, 41), CATCH);
        is("its entries till then", x.info(0, 6), 2);
        is("FAILED", x.step(0, 1), FAILED);
        is("for 1", x.info(0, 11), 1);
        x = Tables.building(false, 0, 1, 1);
        is("not unique", x.step(0, 42), READY);
        x = Tables.building(true, 41, 1, 2);
        x.begin();
        is("a clash that comes while it is building", x.update(0, 0, 0, 2), 1);
        is("CATCH", x.step(0, 1), CATCH);
        is("FAILED", x.step(0, 1), FAILED);
        x = Tables.with(1, 2);
        x.begin();
        x.update(0, 0, 2, 1);
        x.index(0, 2, NONE, true);
        x.index(2, NONE, NONE, true);
        is("no clash for its key", x.step(0, 1000), READY);
        is("a clash for its key", x.step(1, 1000), FAILED);
    }

    private static void clashThatIsGone() {
        Due.sentence("3 BUILDING", "and there is a CLASH for its key");
        IndexedTable x = Tables.building(true, 41, 1, 1);
        x.begin();
        x.update(0, 0, 0, 3);
        x.commit(0);
        is("gone before its end", x.step(0, 3), READY);
        is("no reason", x.info(0, 11), 0);
        x = Tables.building(true, 41, 1, 1);
        x.begin();
        x.update(0, 0, 0, 3);
        is("under way is not gone", x.step(0, 2), FAILED);
    }

    private static void clashBesideOthers() {
        Due.sentence("3 BUILDING", "there is a CLASH for its key");
        // Place 1 has the key too, but only under way, and with the writer of both others.
        IndexedTable x = Tables.with(5, 6, 7, 5);
        x.begin();
        x.update(0, 0, 0, 8);
        x.update(0, 1, 0, 5);
        x.update(0, 3, 0, 9);
        x.index(0, NONE, NONE, true);
        is("what was committed", x.step(0, 1000), FAILED);
        is("the least one", x.info(0, 12), 0);
        is("the other one", x.info(0, 13), 3);
        // Place 1 had the key: what the others have under way counts against it no more than against what it has.
        x = Tables.with(6, 5, 7, 8);
        x.begin();
        x.update(0, 0, 0, 5);
        x.update(0, 1, 0, 9);
        x.update(0, 3, 0, 5);
        x.index(0, NONE, NONE, true);
        is("what is under way", x.step(0, 1000), FAILED);
        is("the least one", x.info(0, 12), 0);
        is("the other one", x.info(0, 13), 3);
        is("one of them as it was", x.undo(0, 2), 1);
        x.drop(0);
        x.index(0, NONE, NONE, true);
        is("no clash is left", x.step(0, 1000), READY);
        Due.same("all of its entries", Tables.entries(x, 0), "5@0 5@1 6@0 7@2 8@3 9@1");
    }

    private static void clashOfWholeKeys() {
        Due.sentence("2 INDEXES", "one to three different fields in order, which make a KEY of an image");
        for (int f = 0; f < 3; f++) {
            IndexedTable x = new IndexedTable();
            x.begin();
            x.insert(0, 1, 2, 3, 0);
            x.insert(0, f == 0 ? 9 : 1, f == 1 ? 9 : 2, f == 2 ? 9 : 3, 0);
            x.index(0, 1, 2, true);
            is("unlike in its field " + f, x.step(0, 1000), READY);
            is("alike in the others, and now in it", x.update(0, 1, f, f + 1), DUPLICATE);
            is("unlike it stays", x.field(0, 1, f), 9);
            is("the fourth one is none of its key", x.insert(0, 1, 2, 3, 9), DUPLICATE);
            is("no clash", x.audit(), 0);
            x.drop(0);
            x.update(0, 1, f, f + 1);
            x.index(0, 1, 2, true);
            is("alike in all three", x.step(0, 1000), FAILED);
        }
    }

    private static void placesAreTold() {
        Due.sentence("3 BUILDING", "and the two places are told (the least one that has a clash, the least other one).");
        int[][] keys = {{1, 1}, {4, 5, 6, 5, 4, 5}, {9, 1, 2, 3, 2, 2}, {1, 2, 3, 3, 2}, {7, 8, 1, 1, 8, 7}};
        int[][] due = {{0, 1}, {0, 4}, {2, 4}, {1, 4}, {0, 5}};
        for (int k = 0; k < keys.length; k++) {
            IndexedTable x = Tables.building(true, 0, keys[k]);
            is("FAILED", x.step(0, 1000), FAILED);
            is("the least one", x.info(0, 12), due[k][0]);
            is("the least other one", x.info(0, 13), due[k][1]);
        }
        IndexedTable x = new IndexedTable();
        x.begin();
        x.begin();
        for (int k = 0; k < 320; k++) {
            x.insert(k / 200, Math.min(k, 318), 0, 0, 0);
        }
        x.index(0, NONE, NONE, true);
        is("FAILED", x.step(0, 1000), FAILED);
        is("the last but one", x.info(0, 12), 318);
        is("the last", x.info(0, 13), 319);
    }

    private static void overflowInAllThree() {
        Due.sentence("3 BUILDING", "A log that would have more than 300 (in all three): FAILED for 2");
        int[] steps = {1, 40, 41};
        for (int k = 0; k < 3; k++) {
            IndexedTable x = fullLog(true, steps[k]);
            is("BUILDING", x.info(0, 0), SCAN + k);
            is("the write is done", x.update(0, 0, 0, 900), 1);
            is("FAILED", x.info(0, 0), FAILED);
            is("for 2", x.info(0, 11), 2);
            is("no step changes it", x.step(0, 1000), FAILED);
            is("for 2 still", x.info(0, 11), 2);
        }
    }

    private static void overflowAtOnce() {
        Due.sentence("3 BUILDING", "FAILED for 2 (at once; nothing else is told).");
        // 299, then one comes and another goes: the first of them has room.
        IndexedTable x = Tables.building(true, 1, Tables.upTo(7));
        x.begin();
        for (int k = 0; k < 153; k++) {
            x.update(0, k % 7, 0, 100 + k);
        }
        is("299", x.info(0, 9), 299);
        is("the write is done", x.update(0, 0, 0, 1), 1);
        is("FAILED at once", x.info(0, 0), FAILED);
        is("for 2", x.info(0, 11), 2);
        is("no log", x.info(0, 9), 0);
        is("no place, though there is a clash", x.info(0, 12), NONE);
        is("no place", x.info(0, 13), NONE);
    }

    private static void overflowByEachCall() {
        Due.sentence("3 BUILDING", "A log that would have more than 300");
        fails("insert", x -> is("insert", x.insert(0, 900, 0, 0, 0), 8));
        fails("update", x -> is("update", x.update(0, 3, 0, 900), 1));
        fails("undo", x -> is("undo", x.undo(0, 153), 1));
        fails("commit", x -> is("commit", x.commit(0), 8));
        fails("abort", x -> is("abort", x.abort(0), 154));
        IndexedTable x = fullLog(false, 41);
        is("what needs no log", x.remove(0, 3), 1);
        is("an entry of a current image goes", x.info(0, 0), FAILED);
        x = Tables.building(false, 41, Tables.upTo(9));
        x.begin();
        for (int k = 0; k < 154; k++) {
            x.update(0, k % 8, 0, 100 + k);
        }
        is("the log", x.info(0, 9), 300);
        x.remove(0, 8);
        is("a removed row keeps its committed entry: nothing goes", x.info(0, 0), CATCH);
    }

    private static void fails(String call, Consumer<IndexedTable> last) {
        IndexedTable x = fullLog(false, 41);
        // Another index, which has no log for what is written, goes on.
        x.index(3, NONE, NONE, false);
        last.accept(x);
        is(call + ": FAILED", x.info(0, 0), FAILED);
        is(call + ": for 2", x.info(0, 11), 2);
        is(call + ": the other goes on", x.step(1, 1000), READY);
        is(call + ": audit", x.audit(), 0);
    }

    private static void failedHasNone() {
        Due.sentence("3 BUILDING", "A FAILED index has no entries, and nothing comes to it.");
        IndexedTable one = Tables.building(true, 1000, 1, 1, 2, 3, 4, 5);
        one.begin();
        IndexedTable two = fullLog(false, 41);
        two.update(0, 0, 0, 900);
        for (IndexedTable x : new IndexedTable[] {one, two}) {
            is("FAILED", x.info(0, 0), FAILED);
            is("no entries", x.info(0, 6), 0);
            is("height", x.info(0, 7), 1);
            is("nodes", x.info(0, 8), 1);
            is("no log", x.info(0, 9), 0);
            is("an insert", x.insert(0, 1000, 0, 0, 0), x.count(0) - 1);
            is("an update", x.update(0, 1, 0, 1001), 1);
            is("nothing comes", x.info(0, 6), 0);
            is("nor to its log", x.info(0, 9), 0);
            x.commit(0);
            is("nothing comes", x.info(0, 6), 0);
            is("no entry", x.entry(0, 0, 0), UNKNOWN);
            is("no way", x.ask(NONE, 1), UNKNOWN);
        }
    }

    private static void duplicateOnlyWhenReady() {
        Due.sentence("3 BUILDING", "While an index is unique and READY, a write is DUPLICATE");
        for (int steps : new int[] {0, 1, 39, 40, 41}) {
            IndexedTable x = Tables.building(true, steps, 1, 2);
            x.begin();
            is("while it is BUILDING", x.insert(0, 1, 0, 0, 0), 2);
            is("while it is BUILDING", x.update(0, 0, 0, 2), 1);
        }
        IndexedTable x = Tables.building(true, 42, 1, 2);
        x.begin();
        is("READY", x.insert(0, 1, 0, 0, 0), DUPLICATE);
        is("READY", x.update(0, 0, 0, 2), DUPLICATE);
        x.drop(0);
        is("gone", x.insert(0, 1, 0, 0, 0), 2);
        x = Tables.building(true, 42, 1, 1);
        x.begin();
        is("FAILED", x.insert(0, 1, 0, 0, 0), 2);
        x = Tables.building(false, 42, 1, 2);
        x.begin();
        is("not unique", x.insert(0, 1, 0, 0, 0), 2);
    }

    private static void duplicateIsNotDone() {
        Due.sentence("3 BUILDING", "a write is DUPLICATE (it is not done) if there would be a CLASH for that index with the place that it writes.");
        IndexedTable x = Tables.indexed(true, 1, 2);
        x.index(0, 1, NONE, false);
        x.step(1, 1000);
        x.begin();
        is("insert", x.insert(0, 2, 0, 0, 0), DUPLICATE);
        is("update", x.update(0, 0, 0, 2), DUPLICATE);
        is("no row", x.count(0), 2);
        is("no record", x.records(0), 0);
        is("no writer", x.writer(0), NONE);
        is("no value", x.field(0, 0, 0), 1);
        Due.same("no entry", Tables.entries(x, 0), "1@0 2@1");
        Due.same("nor of another index", Tables.entries(x, 1), "1@0 2@1");
        is("the same transaction goes on", x.update(0, 0, 0, 3), 1);
        is("its own committed key is no clash", x.update(0, 0, 0, 1), 1);
    }

    // ---- promise 12

    private static void steps() {
        Due.sentence("Promise 12", "So many STEPS (1 .. 1000), as long as it is BUILDING: its state then.");
        IndexedTable x = Tables.building(false, 0, Tables.upTo(20));
        is("one", x.step(0, 1), SCAN);
        is("one", x.info(0, 10), 1);
        is("41 more: 39 pages, sixteen, four", x.step(0, 41), CATCH);
        is("more than there are", x.step(0, 999), READY);
        is("none is done", x.step(0, 1), READY);
        is("none is done", x.step(0, 1000), READY);
        is("all entries", x.info(0, 6), 20);
        x = fullLog(false, 1);
        is("1000 are enough for all", x.step(0, 1000), READY);
        x = Tables.building(true, 0, 1, 1);
        is("to FAILED", x.step(0, 1000), FAILED);
        is("none is done", x.step(0, 1), FAILED);
    }

    private static void stepRefused() {
        Due.sentence("Promise 12", "its state then. UNKNOWN, OUTSIDE.");
        IndexedTable x = Tables.building(false, 0, 1);
        for (int n : new int[] {MIN, -1, 0, 1001, MAX}) {
            is("step(0, " + n + ")", x.step(0, n), OUTSIDE);
            is("no index goes first", x.step(1, n), UNKNOWN);
        }
        is("nothing was done", x.info(0, 10), 0);
        for (int i : NO_INDEX) {
            is("step(" + i + ", 1)", x.step(i, 1), UNKNOWN);
        }
        is("1000", x.step(0, 1000), READY);
        is("OUTSIDE, READY or not", x.step(0, 1001), OUTSIDE);
        is("OUTSIDE, READY or not", x.step(0, 0), OUTSIDE);
    }

    // ---- promise 13

    private static void infos(String state, IndexedTable x, int... due) {
        for (int what = 0; what < 14; what++) {
            is(state + ": info(0, " + what + ")", x.info(0, what), due[what]);
        }
    }

    private static void infoOfStates() {
        Due.sentence("Promise 13", "what = 0 its state (1 .. 5), 1 whether it is unique (1, 0), 2 how many fields, 3, 4, 5 these (NONE), 6 entries "
            + "in its tree, 7 its HEIGHT, 8 how many nodes, 9 how many its log has (0 if it is not BUILDING), 10 the next page (40 behind all), "
            + "11 why it FAILED (0, 1, 2), 12, 13 the places of its clash (NONE).");
        IndexedTable x = Tables.building(false, 0, Tables.upTo(21));
        infos("SCAN", x, SCAN, 0, 1, 0, NONE, NONE, 0, 1, 1, 0, 0, 0, NONE, NONE);
        x.step(0, 1);
        x.begin();
        x.update(0, 7, 0, 77);
        infos("a page", x, SCAN, 0, 1, 0, NONE, NONE, 0, 1, 1, 1, 1, 0, NONE, NONE);
        x.step(0, 40);
        infos("LOAD", x, LOAD, 0, 1, 0, NONE, NONE, 16, 2, 6, 1, 40, 0, NONE, NONE);
        x.step(0, 1);
        infos("CATCH", x, CATCH, 0, 1, 0, NONE, NONE, 21, 3, 10, 1, 40, 0, NONE, NONE);
        x.step(0, 1);
        infos("caught up", x, CATCH, 0, 1, 0, NONE, NONE, 22, 3, 10, 0, 40, 0, NONE, NONE);
        x.step(0, 1);
        infos("READY", x, READY, 0, 1, 0, NONE, NONE, 22, 3, 10, 0, 40, 0, NONE, NONE);
    }

    private static void infoOfFields() {
        Due.sentence("Promise 13", "1 whether it is unique (1, 0), 2 how many fields, 3, 4, 5 these (NONE)");
        IndexedTable x = new IndexedTable();
        int[][] fields = {{3, NONE, NONE}, {3, 0, NONE}, {2, 3, 0}};
        for (int i = 0; i < 3; i++) {
            x.index(fields[i][0], fields[i][1], fields[i][2], i == 1);
            is("unique", x.info(i, 1), i == 1 ? 1 : 0);
            is("how many", x.info(i, 2), i + 1);
            for (int k = 0; k < 3; k++) {
                is("field " + k, x.info(i, 3 + k), fields[i][k]);
            }
        }
    }

    private static void infoOfFailures() {
        Due.sentence("Promise 13", "9 how many its log has (0 if it is not BUILDING), 10 the next page (40 behind all), 11 why it FAILED (0, 1, 2), "
            + "12, 13 the places of its clash (NONE)");
        IndexedTable x = Tables.building(true, 1000, 1, 2, 2);
        infos("for 1", x, FAILED, 1, 1, 0, NONE, NONE, 0, 1, 1, 0, 40, 1, 1, 2);
        x.begin();
        x.update(0, 1, 0, 5);
        x.commit(0);
        infos("it stays as it was", x, FAILED, 1, 1, 0, NONE, NONE, 0, 1, 1, 0, 40, 1, 1, 2);
        x = fullLog(true, 41);
        x.update(0, 0, 0, 900);
        infos("for 2", x, FAILED, 1, 1, 0, NONE, NONE, 0, 1, 1, 0, 40, 2, NONE, NONE);
    }

    private static void infoRefused() {
        Due.sentence("Promise 13", "UNKNOWN, OUTSIDE (what).");
        IndexedTable x = Tables.building(false, 0, 1);
        for (int what : new int[] {MIN, -1, 14, MAX}) {
            is("info(0, " + what + ")", x.info(0, what), OUTSIDE);
            is("no index goes first", x.info(1, what), UNKNOWN);
        }
        for (int i : NO_INDEX) {
            is("info(" + i + ", 0)", x.info(i, 0), UNKNOWN);
        }
        x.drop(0);
        is("gone", x.info(0, 0), UNKNOWN);
        is("gone", x.info(0, 14), UNKNOWN);
    }
}
