/** Tables that tests begin with, and pictures of what they have. */
final class Tables {
    static final int NONE = IndexedTable.NONE;

    private Tables() {
    }

    static int[] upTo(int n) {
        return from(0, n - 1);
    }

    static int[] from(int first, int last) {
        int[] keys = new int[last - first + 1];
        for (int k = 0; k < keys.length; k++) {
            keys[k] = first + k;
        }
        return keys;
    }

    /** Places 0, 1 .. have these values in field 0, ten times them in field 1, 0 in the others, committed. */
    static IndexedTable with(int... keys) {
        IndexedTable x = new IndexedTable();
        x.begin();
        for (int key : keys) {
            x.insert(0, key, 10 * key, 0, 0);
        }
        x.commit(0);
        return x;
    }

    /** The same with index 0, of field 0, that is building, so many steps of it done. */
    static IndexedTable building(boolean unique, int steps, int... keys) {
        IndexedTable x = with(keys);
        x.index(0, NONE, NONE, unique);
        if (steps > 0) {
            x.step(0, steps);
        }
        return x;
    }

    /** The same with index 0, of field 0, that is ready. */
    static IndexedTable indexed(boolean unique, int... keys) {
        IndexedTable x = with(keys);
        x.index(0, NONE, NONE, unique);
        Due.is("made: step(0, 1000)", x.step(0, 1000), 4);
        return x;
    }

    /** A ready index 0 of field 0 and transaction 0 under way, whose rows come with these keys in this order. */
    static IndexedTable grown(int... keys) {
        IndexedTable x = new IndexedTable();
        x.index(0, NONE, NONE, false);
        x.step(0, 1000);
        x.begin();
        for (int key : keys) {
            x.insert(0, key, 0, 0, 0);
        }
        return x;
    }

    /** Of a grown table the row with this key goes. */
    static void goes(IndexedTable x, int key) {
        int size = x.info(0, 6);
        for (int p = 0; p < size; p++) {
            if (x.entry(0, p, 1) == key) {
                Due.is("remove", x.remove(0, x.entry(0, p, 0)), 1);
                return;
            }
        }
        Due.is("there is an entry " + key, 0, 1);
    }

    /** The keys of index 0 (their first fields) in order; behind each how many nodes are above its own. */
    static String picture(IndexedTable x) {
        StringBuilder text = new StringBuilder();
        int size = x.info(0, 6);
        for (int p = 0; p < size; p++) {
            text.append(p > 0 ? " " : "").append(x.entry(0, p, 1)).append('/').append(x.entry(0, p, 4));
        }
        return text.toString();
    }

    /** The entries of index i in order: the first field of the key, and the place. */
    static String entries(IndexedTable x, int i) {
        StringBuilder text = new StringBuilder();
        int size = x.info(i, 6);
        for (int p = 0; p < size; p++) {
            text.append(p > 0 ? " " : "").append(x.entry(i, p, 1)).append('@').append(x.entry(i, p, 0));
        }
        return text.toString();
    }

    /** The latest answer's places. */
    static String answer(IndexedTable x) {
        StringBuilder text = new StringBuilder();
        for (int k = 0; x.answer(k) != NONE; k++) {
            text.append(k > 0 ? " " : "").append(x.answer(k));
        }
        return text.toString();
    }
}
