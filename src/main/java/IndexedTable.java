import java.util.Arrays;

/**
 * A table of rows with its indexes, under transactions. The document (DOC.md) says what each call answers;
 * its words (place, image, record, entry, step ..) are the names used here.
 *
 * All memory is made by the constructor: no call makes an object.
 */
public final class IndexedTable {
    public static final int NONE = -1, UNKNOWN = -101, OUTSIDE = -102, LOCKED = -103, ROOM = -104, DUPLICATE = -105;

    private static final int PLACES = 320;
    private static final int PAGE_PLACES = 8;
    private static final int PAGES = PLACES / PAGE_PLACES;
    private static final int FIELDS = 4;
    private static final int LEAST_VALUE = 0x80000000;
    private static final int GREATEST_VALUE = 0x7fffffff;
    private static final int TRANSACTIONS = 8;
    private static final int RECORDS = 200;

    private static final int INDEXES = 6;
    private static final int KEY_FIELDS = 3;
    private static final int LOG_ROOM = 300;
    private static final int LOAD_AT_ONCE = 16;
    private static final int MOST_STEPS = 1000;

    private static final int SCAN = 1, LOAD = 2, CATCH = 3, READY = 4, FAILED = 5;
    private static final int FOR_CLASH = 1, FOR_LOG = 2;

    private static final int PAGE_COST = 8;
    private static final int ENTRY_COST = 3;

    private final Rows rows = new Rows();
    /** What the rows would be, to look for a clash before anything is done. */
    private final Rows trial = new Rows();
    private final Transaction[] transactions = new Transaction[TRANSACTIONS];
    private final Index[] indexes = new Index[INDEXES];

    /** The image that a write is about to bring. */
    private final Images next = new Images(1);
    /** The image that a change has just put away. */
    private final Images replaced = new Images(1);

    private final int[] lows = new int[FIELDS];
    private final int[] highs = new int[FIELDS];

    private final int[] told = new int[PLACES];
    private int toldSize = 0;
    private int askedWay = NONE;
    private int lookedAt = 0;

    public IndexedTable() {
        for (int t = 0; t < TRANSACTIONS; t++) {
            transactions[t] = new Transaction();
        }
        for (int i = 0; i < INDEXES; i++) {
            indexes[i] = new Index();
        }
        Arrays.fill(lows, LEAST_VALUE);
        Arrays.fill(highs, GREATEST_VALUE);
    }

    // ---- transactions and writes

    public int begin() {
        for (int t = 0; t < TRANSACTIONS; t++) {
            if (!transactions[t].active) {
                transactions[t].active = true;
                transactions[t].size = 0;
                return t;
            }
        }
        return ROOM;
    }

    public int insert(int t, int a, int b, int c, int d) {
        if (!isActive(t)) {
            return UNKNOWN;
        }
        int place = leastFreePlace();
        if (place == NONE || transactions[t].isFull()) {
            return ROOM;
        }
        next.put(0, a, b, c, d);
        if (wouldClash(t, place)) {
            return DUPLICATE;
        }
        write(t, place);
        return place;
    }

    public int update(int t, int place, int field, int value) {
        if (!isActive(t)) {
            return UNKNOWN;
        }
        if (!isField(field)) {
            return OUTSIDE;
        }
        if (isLocked(t, place)) {
            return LOCKED;
        }
        if (!hasRow(place)) {
            return UNKNOWN;
        }
        // No write, so neither a full transaction nor a clash can be in its way.
        if (rows.current.valueOf(place, field) == value) {
            return 0;
        }
        if (transactions[t].isFull()) {
            return ROOM;
        }
        next.copy(0, rows.current, place);
        next.set(0, field, value);
        if (wouldClash(t, place)) {
            return DUPLICATE;
        }
        write(t, place);
        return 1;
    }

    public int remove(int t, int place) {
        if (!isActive(t)) {
            return UNKNOWN;
        }
        if (isLocked(t, place)) {
            return LOCKED;
        }
        if (!hasRow(place)) {
            return UNKNOWN;
        }
        if (transactions[t].isFull()) {
            return ROOM;
        }
        // No clash to look for: what is left of the place had been there before.
        next.clear(0);
        write(t, place);
        return 1;
    }

    public int records(int t) {
        return isActive(t) ? transactions[t].size : UNKNOWN;
    }

    public int undo(int t, int n) {
        if (!isActive(t)) {
            return UNKNOWN;
        }
        if (n < 0 || n > transactions[t].size) {
            return OUTSIDE;
        }
        if (undoWouldClash(t, n)) {
            return DUPLICATE;
        }
        return undoTo(t, n);
    }

    public int commit(int t) {
        if (!isActive(t)) {
            return UNKNOWN;
        }
        int wrote = 0;
        for (int place = 0; place < PLACES; place++) {
            if (rows.writers[place] == t) {
                replaced.copy(0, rows.committed, place);
                rows.committed.copy(place, rows.current, place);
                rows.writers[place] = NONE;
                tellIndexes(place);
                wrote++;
            }
        }
        transactions[t].active = false;
        return wrote;
    }

    public int abort(int t) {
        if (!isActive(t)) {
            return UNKNOWN;
        }
        // No clash to look for: committed images never clash in a READY unique index.
        int undone = undoTo(t, 0);
        transactions[t].active = false;
        return undone;
    }

    private boolean isActive(int t) {
        return t >= 0 && t < TRANSACTIONS && transactions[t].active;
    }

    private static boolean isPlace(int place) {
        return place >= 0 && place < PLACES;
    }

    private static boolean isField(int field) {
        return field >= 0 && field < FIELDS;
    }

    private boolean isLocked(int t, int place) {
        return isPlace(place) && rows.writers[place] != NONE && rows.writers[place] != t;
    }

    private boolean hasRow(int place) {
        return isPlace(place) && rows.current.has(place);
    }

    private int leastFreePlace() {
        for (int place = 0; place < PLACES; place++) {
            if (rows.isFree(place)) {
                return place;
            }
        }
        return NONE;
    }

    /** Makes the next image the current one of a place; the caller has looked at room and clashes. */
    private void write(int t, int place) {
        transactions[t].add(rows, place);
        replaced.copy(0, rows.current, place);
        rows.current.copy(place, next, 0);
        rows.writers[place] = t;
        tellIndexes(place);
    }

    private int undoTo(int t, int n) {
        Transaction transaction = transactions[t];
        int undone = transaction.size - n;
        for (int record = transaction.size - 1; record >= n; record--) {
            int place = transaction.places[record];
            replaced.copy(0, rows.current, place);
            transaction.putBack(rows, record);
            tellIndexes(place);
        }
        transaction.size = n;
        return undone;
    }

    private void tellIndexes(int place) {
        for (int i = 0; i < INDEXES; i++) {
            if (!indexes[i].used) {
                continue;
            }
            if (indexes[i].makeComing(rows, place, replaced)) {
                indexes[i].takeMade(true);
            }
            if (indexes[i].makeGoing(rows, place, replaced)) {
                indexes[i].takeMade(false);
            }
        }
    }

    private boolean wouldClash(int t, int place) {
        if (!hasGuard()) {
            return false;
        }
        trial.copyFrom(rows);
        trial.current.copy(place, next, 0);
        trial.writers[place] = t;
        return clashesIn(trial, place);
    }

    /** Undoing changes only the places of its records, so a clash that was not there has one of them. */
    private boolean undoWouldClash(int t, int n) {
        if (!hasGuard()) {
            return false;
        }
        Transaction transaction = transactions[t];
        trial.copyFrom(rows);
        for (int record = transaction.size - 1; record >= n; record--) {
            transaction.putBack(trial, record);
        }
        for (int record = n; record < transaction.size; record++) {
            if (clashesIn(trial, transaction.places[record])) {
                return true;
            }
        }
        return false;
    }

    private boolean hasGuard() {
        for (int i = 0; i < INDEXES; i++) {
            if (indexes[i].isGuard()) {
                return true;
            }
        }
        return false;
    }

    private boolean clashesIn(Rows some, int place) {
        for (int i = 0; i < INDEXES; i++) {
            if (indexes[i].isGuard() && indexes[i].leastClashWith(some, place) != NONE) {
                return true;
            }
        }
        return false;
    }

    // ---- indexes

    public int index(int first, int second, int third, boolean unique) {
        if (!isKey(first, second, third)) {
            return OUTSIDE;
        }
        for (int i = 0; i < INDEXES; i++) {
            if (!indexes[i].used) {
                indexes[i].start(first, second, third, unique);
                return i;
            }
        }
        return ROOM;
    }

    public int drop(int i) {
        if (!isIndex(i)) {
            return UNKNOWN;
        }
        indexes[i].used = false;
        return 1;
    }

    public int step(int i, int n) {
        if (!isIndex(i)) {
            return UNKNOWN;
        }
        if (n < 1 || n > MOST_STEPS) {
            return OUTSIDE;
        }
        for (int k = 0; k < n && indexes[i].isBuilding(); k++) {
            indexes[i].takeStep(rows);
        }
        return indexes[i].state;
    }

    public int info(int i, int what) {
        if (!isIndex(i)) {
            return UNKNOWN;
        }
        Index ix = indexes[i];
        switch (what) {
            case 0: return ix.state;
            case 1: return ix.unique ? 1 : 0;
            case 2: return ix.fieldCount;
            case 3: return ix.fields[0];
            case 4: return ix.fields[1];
            case 5: return ix.fields[2];
            case 6: return ix.tree.size();
            case 7: return ix.tree.height();
            case 8: return ix.tree.nodes();
            case 9: return ix.log.size;
            case 10: return ix.page;
            case 11: return ix.why;
            case 12: return ix.clashOne;
            case 13: return ix.clashOther;
            default: return OUTSIDE;
        }
    }

    public int entry(int i, int p, int what) {
        if (!isIndex(i)) {
            return UNKNOWN;
        }
        Tree tree = indexes[i].tree;
        if (p < 0 || p >= tree.size()) {
            return UNKNOWN;
        }
        switch (what) {
            case 0: return tree.wordAt(p, Entries.PLACE);
            case 1:
            case 2:
            case 3: return tree.wordAt(p, what - 1);
            case 4: return tree.depthAt(p);
            default: return OUTSIDE;
        }
    }

    private boolean isIndex(int i) {
        return i >= 0 && i < INDEXES && indexes[i].used;
    }

    private static boolean isKey(int first, int second, int third) {
        if (!isField(first)) {
            return false;
        }
        if (second == NONE) {
            return third == NONE;
        }
        if (!isField(second) || second == first) {
            return false;
        }
        return third == NONE || (isField(third) && third != first && third != second);
    }

    // ---- questions

    public int where(int field, int low, int high) {
        if (!isField(field)) {
            return OUTSIDE;
        }
        lows[field] = low;
        highs[field] = high;
        return 1;
    }

    public int ask(int t, int way) {
        if (t != NONE && !isActive(t)) {
            return UNKNOWN;
        }
        if (way < NONE || way > INDEXES) {
            return OUTSIDE;
        }
        if (way > 0 && !isReady(way - 1)) {
            return UNKNOWN;
        }
        askedWay = way == NONE ? cheapestWay() : way;
        toldSize = 0;
        lookedAt = 0;
        if (askedWay == 0) {
            answerByScan(t);
        } else {
            answerByIndex(t, indexes[askedWay - 1]);
        }
        return toldSize;
    }

    public int answer(int k) {
        return k >= 0 && k < toldSize ? told[k] : NONE;
    }

    public int asked(int what) {
        switch (what) {
            case 0: return askedWay;
            case 1: return lookedAt;
            default: return OUTSIDE;
        }
    }

    public int cost(int way) {
        if (way < 0 || way > INDEXES) {
            return OUTSIDE;
        }
        if (way > 0 && !isReady(way - 1)) {
            return UNKNOWN;
        }
        return costOf(way);
    }

    private boolean isReady(int i) {
        return isIndex(i) && indexes[i].state == READY;
    }

    private int cheapestWay() {
        int best = 0;
        int bestCost = costOf(0);
        for (int i = 0; i < INDEXES; i++) {
            if (isReady(i) && costOf(1 + i) < bestCost) {
                best = 1 + i;
                bestCost = costOf(1 + i);
            }
        }
        return best;
    }

    private int costOf(int way) {
        if (way == 0) {
            return PAGE_COST * pagesInUse();
        }
        Index ix = indexes[way - 1];
        return ix.tree.height() + ENTRY_COST * ix.rangeSize(lows, highs);
    }

    private int pagesInUse() {
        int pages = 0;
        for (int page = 0; page < PAGES; page++) {
            boolean inUse = false;
            for (int k = 0; k < PAGE_PLACES && !inUse; k++) {
                inUse = !rows.isFree(page * PAGE_PLACES + k);
            }
            if (inUse) {
                pages++;
            }
        }
        return pages;
    }

    private void answerByScan(int t) {
        lookedAt = PLACES;
        for (int place = 0; place < PLACES; place++) {
            if (fits(rows.seenBy(t, place), place)) {
                tell(place);
            }
        }
    }

    private void answerByIndex(int t, Index ix) {
        for (int p = 0; p < ix.tree.size(); p++) {
            if (ix.isInRange(p, lows, highs)) {
                lookedAt++;
                int place = ix.tree.wordAt(p, Entries.PLACE);
                Images seen = rows.seenBy(t, place);
                if (ix.hasKeyOf(p, seen) && fits(seen, place)) {
                    tell(place);
                }
            }
        }
    }

    private boolean fits(Images seen, int place) {
        if (!seen.has(place)) {
            return false;
        }
        for (int f = 0; f < FIELDS; f++) {
            int value = seen.valueOf(place, f);
            if (value < lows[f] || value > highs[f]) {
                return false;
            }
        }
        return true;
    }

    private void tell(int place) {
        if (toldSize < PLACES) {
            told[toldSize] = place;
            toldSize++;
        }
    }

    // ---- looking at the table

    public int sees(int t, int place) {
        if ((t != NONE && !isActive(t)) || !isPlace(place)) {
            return UNKNOWN;
        }
        return rows.seenBy(t, place).has(place) ? 1 : 0;
    }

    public int field(int t, int place, int field) {
        if ((t != NONE && !isActive(t)) || !isPlace(place)) {
            return UNKNOWN;
        }
        if (!isField(field)) {
            return OUTSIDE;
        }
        Images seen = rows.seenBy(t, place);
        return seen.has(place) ? seen.valueOf(place, field) : 0;
    }

    public int writer(int place) {
        return isPlace(place) ? rows.writers[place] : UNKNOWN;
    }

    public int count(int what) {
        switch (what) {
            case 0: return rows.placesInUse();
            case 1: return activeTransactions();
            case 2: return indexesFrom(SCAN);
            case 3: return indexesFrom(READY) - indexesFrom(FAILED);
            default: return OUTSIDE;
        }
    }

    public int audit() {
        int faults = 0;
        for (int i = 0; i < INDEXES; i++) {
            if (isReady(i)) {
                faults += indexes[i].faults(rows);
            }
        }
        return faults;
    }

    private int activeTransactions() {
        int active = 0;
        for (int t = 0; t < TRANSACTIONS; t++) {
            if (transactions[t].active) {
                active++;
            }
        }
        return active;
    }

    /** How many indexes are in this state or a later one. */
    private int indexesFrom(int state) {
        int found = 0;
        for (int i = 0; i < INDEXES; i++) {
            if (indexes[i].used && indexes[i].state >= state) {
                found++;
            }
        }
        return found;
    }

    /** Images of rows, side by side: four fields each, or none. */
    private static final class Images {
        private static final int THERE = FIELDS;
        private static final int WORDS = FIELDS + 1;

        private final int[] words;

        Images(int room) {
            words = new int[room * WORDS];
        }

        boolean has(int at) {
            return words[at * WORDS + THERE] != 0;
        }

        int valueOf(int at, int field) {
            return words[at * WORDS + field];
        }

        void set(int at, int field, int value) {
            words[at * WORDS + field] = value;
        }

        void put(int at, int a, int b, int c, int d) {
            int first = at * WORDS;
            words[first] = a;
            words[first + 1] = b;
            words[first + 2] = c;
            words[first + 3] = d;
            words[first + THERE] = 1;
        }

        void clear(int at) {
            words[at * WORDS + THERE] = 0;
        }

        void copy(int at, Images from, int fromAt) {
            System.arraycopy(from.words, fromAt * WORDS, words, at * WORDS, WORDS);
        }

        void copyAll(Images from) {
            System.arraycopy(from.words, 0, words, 0, Math.min(from.words.length, words.length));
        }
    }

    /** What all places have: their two images and their writers. */
    private static final class Rows {
        final Images committed = new Images(PLACES);
        final Images current = new Images(PLACES);
        final int[] writers = new int[PLACES];

        Rows() {
            Arrays.fill(writers, NONE);
        }

        void copyFrom(Rows other) {
            committed.copyAll(other.committed);
            current.copyAll(other.current);
            System.arraycopy(other.writers, 0, writers, 0, PLACES);
        }

        boolean isFree(int place) {
            return writers[place] == NONE && !current.has(place);
        }

        boolean hasNoImage(int place) {
            return !current.has(place) && !committed.has(place);
        }

        int placesInUse() {
            int inUse = 0;
            for (int place = 0; place < PLACES; place++) {
                if (!isFree(place)) {
                    inUse++;
                }
            }
            return inUse;
        }

        Images seenBy(int t, int place) {
            return t != NONE && writers[place] == t ? current : committed;
        }
    }

    /** A transaction's records: what was at a place before each of its writes. */
    private static final class Transaction {
        boolean active = false;
        int size = 0;
        final int[] places = new int[RECORDS];
        private final int[] writersBefore = new int[RECORDS];
        private final Images imagesBefore = new Images(RECORDS);

        boolean isFull() {
            return size >= RECORDS;
        }

        void add(Rows rows, int place) {
            if (!isFull()) {
                places[size] = place;
                writersBefore[size] = rows.writers[place];
                imagesBefore.copy(size, rows.current, place);
                size++;
            }
        }

        void putBack(Rows rows, int record) {
            int place = places[record];
            rows.current.copy(place, imagesBefore, record);
            rows.writers[place] = writersBefore[record];
        }
    }

    /**
     * Entries side by side: three fields of a key and a place. A field that the index has not is 0 in all of
     * its entries, so that the order word by word is the order of entries.
     */
    private static final class Entries {
        static final int PLACE = KEY_FIELDS;
        private static final int WORDS = KEY_FIELDS + 1;

        private final int[] words;

        Entries(int room) {
            words = new int[room * WORDS];
        }

        int word(int at, int which) {
            return words[at * WORDS + which];
        }

        void set(int at, int which, int value) {
            words[at * WORDS + which] = value;
        }

        void copy(int at, Entries from, int fromAt) {
            System.arraycopy(from.words, fromAt * WORDS, words, at * WORDS, WORDS);
        }

        int compare(int at, Entries other, int otherAt) {
            for (int which = 0; which < WORDS; which++) {
                int mine = words[at * WORDS + which];
                int others = other.words[otherAt * WORDS + which];
                if (mine != others) {
                    return mine < others ? -1 : 1;
                }
            }
            return 0;
        }
    }

    /** What a scan picked, kept in the order of entries. */
    private static final class Picks {
        private static final int PICK_ROOM = 2 * PLACES;

        final Entries entries = new Entries(PICK_ROOM);
        private final int[] order = new int[PICK_ROOM];
        private int size = 0;
        private int taken = 0;

        void clear() {
            size = 0;
            taken = 0;
        }

        void add(Entries from, int at) {
            if (size >= PICK_ROOM) {
                return;
            }
            entries.copy(size, from, at);
            int slot = slotOf(size);
            System.arraycopy(order, slot, order, slot + 1, size - slot);
            order[slot] = size;
            size++;
        }

        private int slotOf(int pick) {
            int from = 0;
            int to = size;
            for (int halvings = 0; halvings < PICK_ROOM && from < to; halvings++) {
                int middle = (from + to) / 2;
                if (entries.compare(order[middle], entries, pick) < 0) {
                    from = middle + 1;
                } else {
                    to = middle;
                }
            }
            return from;
        }

        /** The next one in order; NONE behind the last. */
        int take() {
            if (taken >= size) {
                return NONE;
            }
            int pick = order[taken];
            taken++;
            return pick;
        }
    }

    /** What came and went while an index is building: first in, first out. */
    private static final class Log {
        final Entries entries = new Entries(LOG_ROOM);
        private final boolean[] came = new boolean[LOG_ROOM];
        int size = 0;
        private int first = 0;

        void clear() {
            size = 0;
            first = 0;
        }

        boolean isFull() {
            return size >= LOG_ROOM;
        }

        void add(Entries from, int at, boolean comes) {
            if (!isFull()) {
                int slot = (first + size) % LOG_ROOM;
                entries.copy(slot, from, at);
                came[slot] = comes;
                size++;
            }
        }

        int firstSlot() {
            return first;
        }

        boolean firstCame() {
            return came[first];
        }

        void takeFirst() {
            if (size > 0) {
                first = (first + 1) % LOG_ROOM;
                size--;
            }
        }
    }

    /** The entries of an index in a tree of nodes, which are numbers into arrays made once. */
    private static final class Tree {
        private static final int MOST = 4;
        private static final int LEAST = 2;
        /** A node may have one entry too many for as long as it takes to split it. */
        private static final int SLOTS = MOST + 1;
        private static final int KIDS = SLOTS + 1;
        /** A place has two entries at most, and while one comes before another goes, three. */
        private static final int ENTRY_ROOM = 2 * PLACES + 8;
        /** That many entries are never more than seven nodes deep. */
        private static final int LEVELS = 12;
        /** Each node but the root has two entries; the rest lets a split of each level find room. */
        private static final int NODE_ROOM = ENTRY_ROOM / LEAST + 2 * LEVELS;

        private final Entries entries = new Entries(ENTRY_ROOM);
        private final int[] spareEntries = new int[ENTRY_ROOM];
        private int spareEntryCount = 0;

        private final int[] slots = new int[NODE_ROOM * SLOTS];
        private final int[] kids = new int[NODE_ROOM * KIDS];
        private final int[] sizes = new int[NODE_ROOM];
        private final int[] spareNodes = new int[NODE_ROOM];
        private int spareNodeCount = 0;
        private int root = 0;

        /** The way of the latest search, from the root: nodes, and the slot looked at in each. */
        private final int[] pathNodes = new int[LEVELS];
        private final int[] pathSlots = new int[LEVELS];
        private int pathEnd = 0;

        /** All entries in order with the depths of their nodes, as long as nothing has changed since. */
        private final int[] walk = new int[ENTRY_ROOM];
        private final int[] walkDepths = new int[ENTRY_ROOM];
        private boolean walked = false;
        private int walkSize = 0;

        private final int[] queue = new int[NODE_ROOM];

        Tree() {
            empty();
        }

        void empty() {
            for (int k = 0; k < ENTRY_ROOM; k++) {
                spareEntries[k] = ENTRY_ROOM - 1 - k;
            }
            spareEntryCount = ENTRY_ROOM;
            for (int k = 0; k < NODE_ROOM; k++) {
                spareNodes[k] = NODE_ROOM - 1 - k;
            }
            spareNodeCount = NODE_ROOM;
            root = takeNode();
            walked = false;
        }

        int size() {
            return ENTRY_ROOM - spareEntryCount;
        }

        int nodes() {
            return NODE_ROOM - spareNodeCount;
        }

        int height() {
            int node = root;
            int height = 1;
            while (height < LEVELS && !isLowest(node)) {
                node = kids[node * KIDS];
                height++;
            }
            return height;
        }

        /** A word of the p-th entry; p is below size(). */
        int wordAt(int p, int which) {
            walkAll();
            return entries.word(walk[p], which);
        }

        /** How many nodes are above the p-th entry's node; p is below size(). */
        int depthAt(int p) {
            walkAll();
            return walkDepths[p];
        }

        /** Whether the p-th and the q-th entry have one key; both are below size(). */
        boolean haveOneKey(int p, int q) {
            walkAll();
            for (int f = 0; f < KEY_FIELDS; f++) {
                if (entries.word(walk[p], f) != entries.word(walk[q], f)) {
                    return false;
                }
            }
            return true;
        }

        boolean holds(Entries from, int at) {
            return find(from, at);
        }

        /** An entry comes, if it is not there. */
        void add(Entries from, int at) {
            if (spareEntryCount == 0 || spareNodeCount <= LEVELS || find(from, at)) {
                return;
            }
            spareEntryCount--;
            int added = spareEntries[spareEntryCount];
            entries.copy(added, from, at);
            putInto(pathNodes[pathEnd], pathSlots[pathEnd], added, NONE);
            splitUpwards();
            walked = false;
        }

        /** An entry goes, if it is there. */
        void cut(Entries from, int at) {
            if (!find(from, at)) {
                return;
            }
            int node = pathNodes[pathEnd];
            int slot = pathSlots[pathEnd];
            spareEntries[spareEntryCount] = slots[node * SLOTS + slot];
            spareEntryCount++;
            if (isLowest(node)) {
                takeOut(node, slot);
            } else {
                goToGreatestBelow();
                int lowest = pathNodes[pathEnd];
                int last = sizes[lowest] - 1;
                slots[node * SLOTS + slot] = slots[lowest * SLOTS + last];
                takeOut(lowest, last);
            }
            mendUpwards();
            walked = false;
        }

        private boolean isLowest(int node) {
            return kids[node * KIDS] == NONE;
        }

        private int takeNode() {
            spareNodeCount--;
            int node = spareNodes[spareNodeCount];
            sizes[node] = 0;
            for (int k = 0; k < KIDS; k++) {
                kids[node * KIDS + k] = NONE;
            }
            return node;
        }

        private void giveNode(int node) {
            spareNodes[spareNodeCount] = node;
            spareNodeCount++;
        }

        /** Leads the path to the entry, or to where it belongs in a lowest node; whether it is there. */
        private boolean find(Entries from, int at) {
            int node = root;
            for (int level = 0; level < LEVELS; level++) {
                int slot = 0;
                int order = 1;
                while (slot < sizes[node] && order > 0) {
                    order = from.compare(at, entries, slots[node * SLOTS + slot]);
                    if (order > 0) {
                        slot++;
                    }
                }
                pathNodes[level] = node;
                pathSlots[level] = slot;
                pathEnd = level;
                if (order == 0 || isLowest(node)) {
                    return order == 0;
                }
                node = kids[node * KIDS + slot];
            }
            return false;
        }

        /** Leads the path on, from an entry that is not in a lowest node, to the one just before it. */
        private void goToGreatestBelow() {
            int node = kids[pathNodes[pathEnd] * KIDS + pathSlots[pathEnd]];
            for (int level = pathEnd + 1; level < LEVELS; level++) {
                pathNodes[level] = node;
                pathSlots[level] = sizes[node];
                pathEnd = level;
                if (isLowest(node)) {
                    return;
                }
                node = kids[node * KIDS + sizes[node]];
            }
        }

        /** Puts an entry into a node, and behind it a child (NONE in a lowest one). */
        private void putInto(int node, int slot, int added, int kid) {
            int behind = sizes[node] - slot;
            int slotAt = node * SLOTS + slot;
            int kidAt = node * KIDS + slot + 1;
            System.arraycopy(slots, slotAt, slots, slotAt + 1, behind);
            System.arraycopy(kids, kidAt, kids, kidAt + 1, behind);
            slots[slotAt] = added;
            kids[kidAt] = kid;
            sizes[node]++;
        }

        /** Takes an entry out of a node, and the child behind it. */
        private void takeOut(int node, int slot) {
            int behind = sizes[node] - slot - 1;
            int slotAt = node * SLOTS + slot;
            int kidAt = node * KIDS + slot + 1;
            System.arraycopy(slots, slotAt + 1, slots, slotAt, behind);
            System.arraycopy(kids, kidAt + 1, kids, kidAt, behind);
            sizes[node]--;
        }

        private void splitUpwards() {
            for (int level = pathEnd; level >= 0 && sizes[pathNodes[level]] > MOST; level--) {
                int node = pathNodes[level];
                int right = takeNode();
                int middle = slots[node * SLOTS + LEAST];
                halve(node, right);
                if (level > 0) {
                    putInto(pathNodes[level - 1], pathSlots[level - 1], middle, right);
                } else {
                    root = takeNode();
                    kids[root * KIDS] = node;
                    putInto(root, 0, middle, right);
                }
            }
        }

        /** Of a node with five the first two stay and the last two move; the third is the caller's. */
        private void halve(int node, int right) {
            System.arraycopy(slots, node * SLOTS + LEAST + 1, slots, right * SLOTS, LEAST);
            System.arraycopy(kids, node * KIDS + LEAST + 1, kids, right * KIDS, LEAST + 1);
            sizes[right] = LEAST;
            sizes[node] = LEAST;
        }

        private void mendUpwards() {
            for (int level = pathEnd; level > 0 && sizes[pathNodes[level]] < LEAST; level--) {
                int above = pathNodes[level - 1];
                int slot = pathSlots[level - 1];
                if (slot > 0 && sizes[kids[above * KIDS + slot - 1]] > LEAST) {
                    takeFromLeft(above, slot);
                } else if (slot < sizes[above] && sizes[kids[above * KIDS + slot + 1]] > LEAST) {
                    takeFromRight(above, slot);
                } else {
                    int between = slot > 0 ? slot - 1 : slot;
                    joinAround(above, between);
                    takeOut(above, between);
                }
            }
            if (sizes[root] == 0 && !isLowest(root)) {
                giveNode(root);
                root = kids[root * KIDS];
            }
        }

        private void takeFromLeft(int above, int slot) {
            int left = kids[above * KIDS + slot - 1];
            int node = kids[above * KIDS + slot];
            int between = above * SLOTS + slot - 1;
            System.arraycopy(slots, node * SLOTS, slots, node * SLOTS + 1, sizes[node]);
            System.arraycopy(kids, node * KIDS, kids, node * KIDS + 1, sizes[node] + 1);
            slots[node * SLOTS] = slots[between];
            kids[node * KIDS] = kids[left * KIDS + sizes[left]];
            sizes[node]++;
            sizes[left]--;
            slots[between] = slots[left * SLOTS + sizes[left]];
        }

        private void takeFromRight(int above, int slot) {
            int node = kids[above * KIDS + slot];
            int right = kids[above * KIDS + slot + 1];
            int between = above * SLOTS + slot;
            slots[node * SLOTS + sizes[node]] = slots[between];
            sizes[node]++;
            kids[node * KIDS + sizes[node]] = kids[right * KIDS];
            slots[between] = slots[right * SLOTS];
            sizes[right]--;
            System.arraycopy(slots, right * SLOTS + 1, slots, right * SLOTS, sizes[right]);
            System.arraycopy(kids, right * KIDS + 1, kids, right * KIDS, sizes[right] + 1);
        }

        /** The nodes on both sides of an entry become the left one, with a copy of it. */
        private void joinAround(int above, int slot) {
            int left = kids[above * KIDS + slot];
            int right = kids[above * KIDS + slot + 1];
            int size = sizes[left];
            slots[left * SLOTS + size] = slots[above * SLOTS + slot];
            System.arraycopy(slots, right * SLOTS, slots, left * SLOTS + size + 1, sizes[right]);
            System.arraycopy(kids, right * KIDS, kids, left * KIDS + size + 1, sizes[right] + 1);
            sizes[left] = size + 1 + sizes[right];
            giveNode(right);
        }

        private void walkAll() {
            if (walked) {
                return;
            }
            walkSize = 0;
            int level = 0;
            pathNodes[0] = root;
            pathSlots[0] = 0;
            // Each node is come to once for each of its children, and once more.
            for (int moves = 0; moves < NODE_ROOM * (KIDS + 1) && level >= 0; moves++) {
                int node = pathNodes[level];
                int slot = pathSlots[level];
                if (slot > sizes[node]) {
                    level--;
                } else {
                    if (slot > 0) {
                        noteWalked(slots[node * SLOTS + slot - 1], level);
                    }
                    pathSlots[level]++;
                    if (!isLowest(node) && level + 1 < LEVELS) {
                        level++;
                        pathNodes[level] = kids[node * KIDS + slot];
                        pathSlots[level] = 0;
                    }
                }
            }
            walked = true;
        }

        private void noteWalked(int entry, int level) {
            if (walkSize < ENTRY_ROOM) {
                walk[walkSize] = entry;
                walkDepths[walkSize] = level;
                walkSize++;
            }
        }

        /** How much is not as a tree has to be: its order, the sizes of its nodes, its depth. */
        int faults() {
            walkAll();
            int faults = walkSize == size() ? 0 : 1;
            for (int p = 1; p < walkSize; p++) {
                if (entries.compare(walk[p - 1], entries, walk[p]) >= 0) {
                    faults++;
                }
            }
            return faults + nodeFaults();
        }

        /** Goes through the nodes level by level: those of one level are all lowest ones, or none is. */
        private int nodeFaults() {
            int faults = 0;
            int filled = 1;
            int levelEnd = 1;
            boolean lowest = isLowest(root);
            queue[0] = root;
            for (int at = 0; at < filled; at++) {
                int node = queue[at];
                if (at == levelEnd) {
                    levelEnd = filled;
                    lowest = isLowest(node);
                }
                if (sizes[node] > MOST || (sizes[node] < LEAST && node != root)) {
                    faults++;
                }
                if (isLowest(node) != lowest) {
                    faults++;
                }
                for (int k = 0; k <= sizes[node] && !isLowest(node) && filled < NODE_ROOM; k++) {
                    queue[filled] = kids[node * KIDS + k];
                    filled++;
                }
            }
            return filled == nodes() ? faults : faults + 1;
        }
    }

    /** An index: which key it has, its tree, and how far it is built. */
    private static final class Index {
        boolean used = false;
        boolean unique = false;
        int fieldCount = 0;
        final int[] fields = new int[KEY_FIELDS];
        int state = SCAN;
        int page = 0;
        int why = 0;
        int clashOne = NONE;
        int clashOther = NONE;
        final Tree tree = new Tree();
        final Log log = new Log();
        private final Picks picks = new Picks();
        private final Entries made = new Entries(1);

        void start(int first, int second, int third, boolean isUnique) {
            used = true;
            unique = isUnique;
            fields[0] = first;
            fields[1] = second;
            fields[2] = third;
            fieldCount = second == NONE ? 1 : third == NONE ? 2 : KEY_FIELDS;
            state = SCAN;
            page = 0;
            why = 0;
            clashOne = NONE;
            clashOther = NONE;
            forgetEntries();
        }

        private void forgetEntries() {
            tree.empty();
            log.clear();
            picks.clear();
        }

        boolean isBuilding() {
            return used && state < READY;
        }

        /** Whether it forbids writes that make a clash. */
        boolean isGuard() {
            return used && unique && state == READY;
        }

        // ---- keys

        private boolean haveOneKey(Images some, int at, Images others, int otherAt) {
            if (!some.has(at) || !others.has(otherAt)) {
                return false;
            }
            for (int f = 0; f < fieldCount; f++) {
                if (some.valueOf(at, fields[f]) != others.valueOf(otherAt, fields[f])) {
                    return false;
                }
            }
            return true;
        }

        private void makeEntry(Images images, int at, int place) {
            for (int f = 0; f < KEY_FIELDS; f++) {
                made.set(0, f, f < fieldCount ? images.valueOf(at, fields[f]) : 0);
            }
            made.set(0, Entries.PLACE, place);
        }

        /** Whether its place's image among these has the key of the p-th entry. */
        boolean hasKeyOf(int p, Images images) {
            int place = tree.wordAt(p, Entries.PLACE);
            if (!images.has(place)) {
                return false;
            }
            for (int f = 0; f < fieldCount; f++) {
                if (images.valueOf(place, fields[f]) != tree.wordAt(p, f)) {
                    return false;
                }
            }
            return true;
        }

        // ---- changes of places

        /**
         * One image of a place was replaced by another, or by none: whether an entry comes, which is made then.
         * A commit replaces the committed image: the two that are left are alike, and nothing comes.
         */
        boolean makeComing(Rows rows, int place, Images replaced) {
            Images current = rows.current;
            if (!current.has(place)
                    || haveOneKey(current, place, replaced, 0)
                    || haveOneKey(current, place, rows.committed, place)) {
                return false;
            }
            makeEntry(current, place, place);
            return true;
        }

        /** Likewise, whether the entry of the replaced image goes. */
        boolean makeGoing(Rows rows, int place, Images replaced) {
            if (!replaced.has(0)
                    || haveOneKey(replaced, 0, rows.current, place)
                    || haveOneKey(replaced, 0, rows.committed, place)) {
                return false;
            }
            makeEntry(replaced, 0, place);
            return true;
        }

        /** The made entry comes or goes: in the tree, or in the log if its place was scanned already. */
        void takeMade(boolean comes) {
            if (state == READY) {
                if (comes) {
                    tree.add(made, 0);
                } else {
                    tree.cut(made, 0);
                }
            } else if (isBuilding() && made.word(0, Entries.PLACE) < page * PAGE_PLACES) {
                if (log.isFull()) {
                    fail(FOR_LOG);
                } else {
                    log.add(made, 0, comes);
                }
            }
        }

        private void fail(int reason) {
            state = FAILED;
            why = reason;
            forgetEntries();
        }

        // ---- building

        void takeStep(Rows rows) {
            if (state == SCAN) {
                scanPage(rows);
            } else if (state == LOAD) {
                loadSome();
            } else if (state == CATCH && log.size > 0) {
                catchUp();
            } else if (state == CATCH) {
                finish(rows);
            }
        }

        private void scanPage(Rows rows) {
            for (int k = 0; k < PAGE_PLACES; k++) {
                int place = page * PAGE_PLACES + k;
                if (rows.committed.has(place)) {
                    makeEntry(rows.committed, place, place);
                    picks.add(made, 0);
                }
                if (rows.current.has(place) && !haveOneKey(rows.current, place, rows.committed, place)) {
                    makeEntry(rows.current, place, place);
                    picks.add(made, 0);
                }
            }
            page++;
            if (page >= PAGES) {
                state = LOAD;
            }
        }

        private void loadSome() {
            for (int k = 0; k < LOAD_AT_ONCE; k++) {
                int pick = picks.take();
                if (pick == NONE) {
                    state = CATCH;
                    return;
                }
                tree.add(picks.entries, pick);
            }
        }

        private void catchUp() {
            if (log.firstCame()) {
                tree.add(log.entries, log.firstSlot());
            } else {
                tree.cut(log.entries, log.firstSlot());
            }
            log.takeFirst();
        }

        private void finish(Rows rows) {
            int one = unique ? leastWithClash(rows) : NONE;
            if (one == NONE) {
                state = READY;
                return;
            }
            clashOne = one;
            clashOther = leastClashWith(rows, one);
            fail(FOR_CLASH);
        }

        // ---- clashes

        /**
         * The least place that has a clash; NONE. Only for a tree with all entries of all places: those with one
         * key stand side by side there, the lesser place first.
         */
        private int leastWithClash(Rows rows) {
            int least = NONE;
            for (int p = 1; p < tree.size(); p++) {
                int place = tree.wordAt(p, Entries.PLACE);
                for (int q = p - 1; q >= 0 && tree.haveOneKey(q, p); q--) {
                    int before = tree.wordAt(q, Entries.PLACE);
                    if ((least == NONE || before < least) && isClash(rows, before, place)) {
                        least = before;
                    }
                }
            }
            return least;
        }

        /** The least place that clashes with this one; NONE. */
        int leastClashWith(Rows rows, int place) {
            if (rows.hasNoImage(place)) {
                return NONE;
            }
            for (int other = 0; other < PLACES; other++) {
                if (other != place && !rows.hasNoImage(other) && isClash(rows, place, other)) {
                    return other;
                }
            }
            return NONE;
        }

        private boolean isClash(Rows rows, int place, int other) {
            if (haveOneKey(rows.current, place, rows.current, other)) {
                return true;
            }
            int writer = rows.writers[place];
            int otherWriter = rows.writers[other];
            // Without writers the committed images are the current ones.
            if (writer == NONE && otherWriter == NONE) {
                return false;
            }
            if (haveOneKey(rows.committed, place, rows.committed, other)) {
                return true;
            }
            // One writer ends both places at once: what one of them gives up the other may take.
            return writer != otherWriter
                    && (haveOneKey(rows.current, place, rows.committed, other)
                    || haveOneKey(rows.committed, place, rows.current, other));
        }

        // ---- questions

        int rangeSize(int[] lows, int[] highs) {
            int size = 0;
            for (int p = 0; p < tree.size(); p++) {
                if (isInRange(p, lows, highs)) {
                    size++;
                }
            }
            return size;
        }

        /** The first field whose condition leaves more than one value is the last one that counts. */
        boolean isInRange(int p, int[] lows, int[] highs) {
            for (int f = 0; f < fieldCount; f++) {
                int value = tree.wordAt(p, f);
                int least = lows[fields[f]];
                int most = highs[fields[f]];
                if (value < least || value > most) {
                    return false;
                }
                if (least != most) {
                    return true;
                }
            }
            return true;
        }

        // ---- audit

        int faults(Rows rows) {
            int faults = tree.faults();
            int due = 0;
            for (int place = 0; place < PLACES; place++) {
                if (rows.committed.has(place)) {
                    due++;
                    faults += missing(rows.committed, place);
                }
                if (rows.current.has(place) && !haveOneKey(rows.current, place, rows.committed, place)) {
                    due++;
                    faults += missing(rows.current, place);
                }
            }
            if (due != tree.size()) {
                faults++;
            }
            if (unique && leastWithClash(rows) != NONE) {
                faults++;
            }
            return faults;
        }

        private int missing(Images images, int place) {
            makeEntry(images, place, place);
            return tree.holds(made, 0) ? 0 : 1;
        }
    }
}
