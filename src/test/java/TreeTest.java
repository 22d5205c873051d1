/**
 * The shape of the tree (promises 12 to 14 over the section INDEXES): each picture has the keys in order, a
 * digit behind each that tells how many nodes are above its own.
 */
public final class TreeTest {
    public static void main(String[] args) {
        grows();
        takesFromLeft();
        takesFromRight();
        leftGoesFirst();
        joinsLeft();
        joinsRight();
        goesFromAbove();
        goesFromAboveAndJoins();
        threeLevels();
        threeLevelsTakeWithChildren();
        comesBeforeItGoes();
        emptyAgain();
        asFullAsCanBe();
        Due.end();
    }

    /** A table with a ready index of field 0 and a transaction under way; its keys come in this order. */
    private static IndexedTable grown(int... keys) {
        IndexedTable x = new IndexedTable();
        x.index(0, -1, -1, false);
        x.step(0, 1000);
        x.begin();
        for (int key : keys) {
            x.insert(0, key, 0, 0, 0);
        }
        return x;
    }

    private static int[] from(int first, int last) {
        int[] keys = new int[last - first + 1];
        for (int k = 0; k < keys.length; k++) {
            keys[k] = first + k;
        }
        return keys;
    }

    private static void goes(IndexedTable x, int key) {
        for (int p = 0; p < x.info(0, 6); p++) {
            if (x.entry(0, p, 1) == key) {
                Due.is("remove", x.remove(0, x.entry(0, p, 0)), 1);
                return;
            }
        }
        Due.is("there is an entry " + key, 0, 1);
    }

    private static void shape(String what, IndexedTable x, int height, int nodes, String picture) {
        StringBuilder got = new StringBuilder();
        for (int p = 0; p < x.info(0, 6); p++) {
            got.append(p > 0 ? " " : "").append(x.entry(0, p, 1)).append('/').append(x.entry(0, p, 4));
        }
        if (!got.toString().equals(picture)) {
            System.out.println(what + ": the tree is " + got + ", due is " + picture);
        }
        Due.is(what, got.toString().equals(picture) ? 1 : 0, 1);
        Due.is(what + ", height", x.info(0, 7), height);
        Due.is(what + ", nodes", x.info(0, 8), nodes);
        Due.is(what + ", audit", x.audit(), 0);
    }

    private static void grows() {
        shape("empty", grown(), 1, 1, "");
        shape("four", grown(3, 1, 0, 2), 1, 1, "0/0 1/0 2/0 3/0");
        shape("five", grown(3, 1, 0, 2, 4), 2, 3, "0/1 1/1 2/0 3/1 4/1");
        shape("five, another last one", grown(3, 1, 0, 4, 2), 2, 3, "0/1 1/1 2/0 3/1 4/1");
        shape("downwards", grown(5, 4, 3, 2, 1, 0), 2, 3, "0/1 1/1 2/1 3/0 4/1 5/1");
        shape("eight", grown(from(0, 7)), 2, 4, "0/1 1/1 2/0 3/1 4/1 5/0 6/1 7/1");
        shape("between", grown(0, 10, 20, 30, 40, 11, 12, 13), 2, 4, "0/1 10/1 11/0 12/1 13/1 20/0 30/1 40/1");
        shape("seventeen", grown(from(0, 16)), 3, 9,
            "0/2 1/2 2/1 3/2 4/2 5/1 6/2 7/2 8/0 9/2 10/2 11/1 12/2 13/2 14/1 15/2 16/2");
    }

    private static void takesFromLeft() {
        IndexedTable x = grown(0, 1, 2, 3, 4, -1);
        goes(x, 4);
        shape("from the left", x, 2, 3, "-1/1 0/1 1/0 2/1 3/1");
    }

    private static void takesFromRight() {
        IndexedTable x = grown(from(0, 5));
        goes(x, 0);
        shape("from the right", x, 2, 3, "1/1 2/1 3/0 4/1 5/1");
    }

    private static void leftGoesFirst() {
        IndexedTable x = grown(0, 1, 2, 3, 4, 5, 6, 7, 8, -1);
        goes(x, 3);
        shape("both have three", x, 2, 4, "-1/1 0/1 1/0 2/1 4/1 5/0 6/1 7/1 8/1");
        x = grown(from(0, 8));
        goes(x, 3);
        shape("only the right has three", x, 2, 4, "0/1 1/1 2/0 4/1 5/1 6/0 7/1 8/1");
    }

    private static void joinsLeft() {
        IndexedTable x = grown(from(0, 7));
        goes(x, 3);
        shape("one with the left", x, 2, 3, "0/1 1/1 2/1 4/1 5/0 6/1 7/1");
    }

    private static void joinsRight() {
        IndexedTable x = grown(from(0, 7));
        goes(x, 1);
        shape("without a left", x, 2, 3, "0/1 2/1 3/1 4/1 5/0 6/1 7/1");
    }

    private static void goesFromAbove() {
        IndexedTable x = grown(0, 1, 2, 3, 4, -1);
        goes(x, 2);
        shape("the greatest on its left", x, 2, 3, "-1/1 0/1 1/0 3/1 4/1");
    }

    private static void goesFromAboveAndJoins() {
        IndexedTable x = grown(from(0, 4));
        goes(x, 2);
        shape("the root is gone", x, 1, 1, "0/0 1/0 3/0 4/0");
        x = grown(from(0, 16));
        goes(x, 8);
        shape("from the root, two levels down", x, 2, 6,
            "0/1 1/1 2/0 3/1 4/1 5/1 6/1 7/0 9/1 10/1 11/0 12/1 13/1 14/0 15/1 16/1");
    }

    private static void threeLevels() {
        IndexedTable x = grown(from(0, 16));
        goes(x, 0);
        shape("joins on two levels", x, 2, 6,
            "1/1 2/1 3/1 4/1 5/0 6/1 7/1 8/0 9/1 10/1 11/0 12/1 13/1 14/0 15/1 16/1");
    }

    private static void threeLevelsTakeWithChildren() {
        IndexedTable x = grown(from(0, 19));
        goes(x, 0);
        shape("a node above takes from the right, with a child", x, 3, 9,
            "1/2 2/2 3/2 4/2 5/1 6/2 7/2 8/1 9/2 10/2 11/0 12/2 13/2 14/1 15/2 16/2 17/1 18/2 19/2");
        int[] down = new int[20];
        for (int k = 0; k < 20; k++) {
            down[k] = 19 - k;
        }
        x = grown(down);
        shape("downwards", x, 3, 10,
            "0/2 1/2 2/1 3/2 4/2 5/1 6/2 7/2 8/1 9/2 10/2 11/0 12/2 13/2 14/1 15/2 16/2 17/1 18/2 19/2");
        goes(x, 19);
        shape("a node above takes from the left, with a child", x, 3, 9,
            "0/2 1/2 2/1 3/2 4/2 5/1 6/2 7/2 8/0 9/2 10/2 11/1 12/2 13/2 14/1 15/2 16/2 17/2 18/2");
    }

    private static void comesBeforeItGoes() {
        IndexedTable x = grown(0, 1, 2, 3);
        x.update(0, 3, 0, 9);
        // Five for a moment: the node splits at 2, then 3 goes and the two nodes become one.
        shape("comes, then goes", x, 1, 1, "0/0 1/0 2/0 9/0");
        x = grown(0, 1, 2, 3, 4, 5, 6);
        x.update(0, 0, 0, 7);
        // 7 makes 3 .. 7 split at 5; then 0 goes, and 1 becomes one with 3 4.
        shape("splits, then joins", x, 2, 3, "1/1 2/1 3/1 4/1 5/0 6/1 7/1");
    }

    private static void emptyAgain() {
        IndexedTable x = grown(from(0, 99));
        Due.is("height", x.info(0, 7), 4);
        x.abort(0);
        shape("all undone", x, 1, 1, "");
    }

    /** As many entries as 512 calls can make: 320 rows, and another key for each that can still be changed. */
    private static void asFullAsCanBe() {
        IndexedTable x = new IndexedTable();
        x.begin();
        x.begin();
        for (int place = 0; place < 320; place++) {
            Due.is("insert", x.insert(place / 160, place, 0, 0, 0), place);
        }
        Due.is("commit", x.commit(0), 160);
        Due.is("commit", x.commit(1), 160);
        x.index(0, -1, -1, true);
        Due.is("step", x.step(0, 1000), 4);
        x.begin();
        for (int place = 0; place < 180; place++) {
            Due.is("update", x.update(0, place, 0, 1000 + place), 1);
        }
        Due.is("entries", x.info(0, 6), 500);
        Due.is("the last one", x.entry(0, 499, 1), 1179);
        Due.is("audit", x.audit(), 0);
        Due.is("commit", x.commit(0), 180);
        Due.is("audit", x.audit(), 0);
    }
}
