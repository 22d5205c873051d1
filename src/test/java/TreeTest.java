import java.io.IOException;

/**
 * The shape of the tree, a test for each sentence of the section 2 INDEXES that tells it (promises 13 and 14 show it).
 * A picture has the keys in order, behind each how many nodes are above its own.
 */
public final class TreeTest {
    public static void main(String[] args) throws IOException {
        sizes();
        empty();
        comesToTheLowest();
        five();
        fiveAtEachSide();
        fiveInTheRoot();
        goesAtOnce();
        goesFromAbove();
        goesFromAboveAndJoins();
        oneWithThreeOnItsLeft();
        oneWithThreeOnItsRight();
        takesWithAChild();
        belowTheSameOne();
        joins();
        joinsWithoutALeft();
        joinsOnTwoLevels();
        rootIsGone();
        comesBeforeItGoes();
        equallyDeep();
        asFullAsCanBe();
        Due.end(args);
    }

    private static void shape(String what, IndexedTable x, int height, int nodes, String picture) {
        Due.same(what + ": the tree", Tables.picture(x), picture);
        Due.is(what + ", height", x.info(0, 7), height);
        Due.is(what + ", nodes", x.info(0, 8), nodes);
        Due.is(what + ", audit", x.audit(), 0);
    }

    private static void sizes() {
        Due.sentence("2 INDEXES", "NODES of 1 to 4 entries in order (2 at least, but the root)");
        shape("one in the root", Tables.grown(7), 1, 1, "7/0");
        shape("two in the root", Tables.grown(7, 5), 1, 1, "5/0 7/0");
        shape("four in the root", Tables.grown(3, 1, 0, 2), 1, 1, "0/0 1/0 2/0 3/0");
        shape("two in the others", Tables.grown(3, 1, 0, 2, 4), 2, 3, "0/1 1/1 2/0 3/1 4/1");
        shape("four in another", Tables.grown(0, 1, 2, 3, 4, 5, 6), 2, 3, "0/1 1/1 2/0 3/1 4/1 5/1 6/1");
    }

    private static void empty() {
        Due.sentence("2 INDEXES", "a tree without entries is one empty node.");
        shape("never had one", Tables.grown(), 1, 1, "");
        IndexedTable x = Tables.grown(7);
        Tables.goes(x, 7);
        shape("the only one went", x, 1, 1, "");
        x = Tables.grown(Tables.upTo(100));
        Due.is("height", x.info(0, 7), 4);
        x.abort(0);
        shape("all went", x, 1, 1, "");
        x.begin();
        x.insert(0, 3, 0, 0, 0);
        shape("one came again", x, 1, 1, "3/0");
    }

    private static void comesToTheLowest() {
        Due.sentence("2 INDEXES", "An entry COMES to the lowest node where it belongs.");
        shape("before all", Tables.grown(0, 10, 20, 30, 40, -1), 2, 3, "-1/1 0/1 10/1 20/0 30/1 40/1");
        shape("just before the root's", Tables.grown(0, 10, 20, 30, 40, 19), 2, 3, "0/1 10/1 19/1 20/0 30/1 40/1");
        shape("just behind the root's", Tables.grown(0, 10, 20, 30, 40, 21), 2, 3, "0/1 10/1 20/0 21/1 30/1 40/1");
        shape("behind all", Tables.grown(0, 10, 20, 30, 40, 41), 2, 3, "0/1 10/1 20/0 30/1 40/1 41/1");
        shape("the root's key, a later place", Tables.grown(0, 10, 20, 30, 40, 20), 2, 3, "0/1 10/1 20/0 20/1 30/1 40/1");
    }

    private static void five() {
        Due.sentence("2 INDEXES", "A node with five: its third one goes to the node above, between what becomes two nodes with two each");
        shape("the last node", Tables.grown(Tables.upTo(8)), 2, 4, "0/1 1/1 2/0 3/1 4/1 5/0 6/1 7/1");
        shape("the first node", Tables.grown(0, 1, 2, 3, 4, -1, -2, -3), 2, 4, "-3/1 -2/1 -1/0 0/1 1/1 2/0 3/1 4/1");
        shape("a node between", Tables.grown(0, 10, 20, 30, 40, 50, 60, 70, 21, 22, 23), 2, 5,
            "0/1 10/1 20/0 21/1 22/1 23/0 30/1 40/1 50/0 60/1 70/1");
    }

    private static void fiveAtEachSide() {
        Due.sentence("2 INDEXES", "A node with five: its third one goes to the node above");
        int[][] orders = {{10, 20, 30, 40, 5}, {10, 20, 30, 40, 15}, {10, 20, 30, 40, 25}, {10, 20, 30, 40, 35}, {10, 20, 30, 40, 45}};
        String[] due = {"5/1 10/1 20/0 30/1 40/1", "10/1 15/1 20/0 30/1 40/1", "10/1 20/1 25/0 30/1 40/1",
            "10/1 20/1 30/0 35/1 40/1", "10/1 20/1 30/0 40/1 45/1"};
        for (int k = 0; k < orders.length; k++) {
            shape("the fifth comes as number " + k, Tables.grown(orders[k]), 2, 3, due[k]);
        }
    }

    private static void fiveInTheRoot() {
        Due.sentence("2 INDEXES", "a root that has five becomes two below a new root with that one.");
        shape("sixteen: a root with four", Tables.grown(Tables.upTo(16)), 2, 6,
            "0/1 1/1 2/0 3/1 4/1 5/0 6/1 7/1 8/0 9/1 10/1 11/0 12/1 13/1 14/1 15/1");
        shape("seventeen: a new root above", Tables.grown(Tables.upTo(17)), 3, 9,
            "0/2 1/2 2/1 3/2 4/2 5/1 6/2 7/2 8/0 9/2 10/2 11/1 12/2 13/2 14/1 15/2 16/2");
        IndexedTable x = Tables.grown(Tables.upTo(52));
        Due.is("fifty-two: height", x.info(0, 7), 3);
        x.insert(0, 52, 0, 0, 0);
        Due.is("fifty-three: height", x.info(0, 7), 4);
        Due.is("fifty-three: nodes, of two entries each but the root", x.info(0, 8), 27);
        Due.is("the new root", x.entry(0, 26, 4), 0);
    }

    private static void goesAtOnce() {
        Due.sentence("2 INDEXES", "An entry GOES: from a lowest node at once");
        IndexedTable x = Tables.grown(0, 1, 2, 3, 4, 5);
        Tables.goes(x, 4);
        shape("two are left", x, 2, 3, "0/1 1/1 2/0 3/1 5/1");
        x = Tables.grown(0, 1, 2, 3);
        Tables.goes(x, 0);
        Tables.goes(x, 2);
        Tables.goes(x, 3);
        shape("one is left in a root", x, 1, 1, "1/0");
    }

    private static void goesFromAbove() {
        Due.sentence("2 INDEXES", "from another node: the greatest one below it on its left takes its place, and goes from its own lowest node.");
        IndexedTable x = Tables.grown(0, 1, 2, 3, 4, -1);
        Tables.goes(x, 2);
        shape("of three", x, 2, 3, "-1/1 0/1 1/0 3/1 4/1");
        x = Tables.grown(Tables.upTo(17));
        Tables.goes(x, 2);
        shape("from a node between, joined on two levels", x, 2, 6,
            "0/1 1/1 3/1 4/1 5/0 6/1 7/1 8/0 9/1 10/1 11/0 12/1 13/1 14/0 15/1 16/1");
        x = Tables.grown(0, 10, 20, 30, 40, 50, 60, 70, 80, 90, 100, 110, 120, 130, 140, 150, 160, 65);
        Tables.goes(x, 80);
        shape("from the root, two levels down", x, 3, 9,
            "0/2 10/2 20/1 30/2 40/2 50/1 60/2 65/2 70/0 90/2 100/2 110/1 120/2 130/2 140/1 150/2 160/2");
    }

    private static void goesFromAboveAndJoins() {
        Due.sentence("2 INDEXES", "takes its place, and goes from its own lowest node. A node with one (not the root)");
        IndexedTable x = Tables.grown(Tables.upTo(5));
        Tables.goes(x, 2);
        shape("its lowest node has one then", x, 1, 1, "0/0 1/0 3/0 4/0");
        x = Tables.grown(Tables.upTo(17));
        Tables.goes(x, 8);
        shape("from the root, two levels down", x, 2, 6,
            "0/1 1/1 2/0 3/1 4/1 5/1 6/1 7/0 9/1 10/1 11/0 12/1 13/1 14/0 15/1 16/1");
    }

    private static void oneWithThreeOnItsLeft() {
        Due.sentence("2 INDEXES", "if the node on its left below the same one has three or more: the entry between them comes down to it as its "
            + "first, and that one's last (with the last child) takes that place");
        IndexedTable x = Tables.grown(0, 1, 2, 3, 4, -1);
        Tables.goes(x, 4);
        shape("three", x, 2, 3, "-1/1 0/1 1/0 2/1 3/1");
        x = Tables.grown(0, 1, 2, 3, 4, -1, -2);
        Tables.goes(x, 3);
        shape("four", x, 2, 3, "-2/1 -1/1 0/1 1/0 2/1 4/1");
        x = Tables.grown(0, 1, 2, 3, 4, 5, 6, 7, 8, -1);
        Tables.goes(x, 3);
        shape("the left one goes first, if both have three", x, 2, 4, "-1/1 0/1 1/0 2/1 4/1 5/0 6/1 7/1 8/1");
        x = Tables.grown(0, 1, 2, 3, 4, 5, 6, 7, 8, 9, -1);
        Tables.goes(x, 4);
        shape("also if the right one has more", x, 2, 4, "-1/1 0/1 1/0 2/1 3/1 5/0 6/1 7/1 8/1 9/1");
    }

    private static void oneWithThreeOnItsRight() {
        Due.sentence("2 INDEXES", "else, if the node on its right has three or more: likewise from there");
        IndexedTable x = Tables.grown(Tables.upTo(6));
        Tables.goes(x, 0);
        shape("without a left, three", x, 2, 3, "1/1 2/1 3/0 4/1 5/1");
        x = Tables.grown(Tables.upTo(7));
        Tables.goes(x, 1);
        shape("without a left, four", x, 2, 3, "0/1 2/1 3/0 4/1 5/1 6/1");
        x = Tables.grown(Tables.upTo(9));
        Tables.goes(x, 3);
        shape("the left has two", x, 2, 4, "0/1 1/1 2/0 4/1 5/1 6/0 7/1 8/1");
    }

    private static void takesWithAChild() {
        Due.sentence("2 INDEXES", "that one's last (with the last child) takes that place");
        int[] down = new int[20];
        for (int k = 0; k < 20; k++) {
            down[k] = 19 - k;
        }
        IndexedTable x = Tables.grown(down);
        shape("downwards", x, 3, 10,
            "0/2 1/2 2/1 3/2 4/2 5/1 6/2 7/2 8/1 9/2 10/2 11/0 12/2 13/2 14/1 15/2 16/2 17/1 18/2 19/2");
        Tables.goes(x, 19);
        shape("from the left, with its last child", x, 3, 9,
            "0/2 1/2 2/1 3/2 4/2 5/1 6/2 7/2 8/0 9/2 10/2 11/1 12/2 13/2 14/1 15/2 16/2 17/2 18/2");
        x = Tables.grown(Tables.upTo(20));
        Tables.goes(x, 0);
        shape("from the right, with its first child", x, 3, 9,
            "1/2 2/2 3/2 4/2 5/1 6/2 7/2 8/1 9/2 10/2 11/0 12/2 13/2 14/1 15/2 16/2 17/1 18/2 19/2");
    }

    private static void belowTheSameOne() {
        Due.sentence("2 INDEXES", "the node on its left below the same one");
        // 6 7 and what comes beside them are below another node than 9 10: they may not give.
        IndexedTable x = Tables.grown(0, 10, 20, 30, 40, 50, 60, 70, 80, 90, 100, 110, 120, 130, 140, 150, 160, 65, 66);
        shape("four beside two", x, 3, 9,
            "0/2 10/2 20/1 30/2 40/2 50/1 60/2 65/2 66/2 70/2 80/0 90/2 100/2 110/1 120/2 130/2 140/1 150/2 160/2");
        Tables.goes(x, 90);
        shape("it joins on its right, and so does the one above", x, 2, 6,
            "0/1 10/1 20/0 30/1 40/1 50/0 60/1 65/1 66/1 70/1 80/0 100/1 110/1 120/1 130/1 140/0 150/1 160/1");
    }

    private static void joins() {
        Due.sentence("2 INDEXES", "else it becomes one with the node on its left (without one: on its right) and the entry between them.");
        IndexedTable x = Tables.grown(Tables.upTo(8));
        Tables.goes(x, 3);
        shape("left and right have two: the left", x, 2, 3, "0/1 1/1 2/1 4/1 5/0 6/1 7/1");
        x = Tables.grown(Tables.upTo(8));
        Tables.goes(x, 7);
        shape("the last one", x, 2, 3, "0/1 1/1 2/0 3/1 4/1 5/1 6/1");
    }

    private static void joinsWithoutALeft() {
        Due.sentence("2 INDEXES", "(without one: on its right)");
        IndexedTable x = Tables.grown(Tables.upTo(8));
        Tables.goes(x, 1);
        shape("the first one", x, 2, 3, "0/1 2/1 3/1 4/1 5/0 6/1 7/1");
    }

    private static void joinsOnTwoLevels() {
        Due.sentence("2 INDEXES", "A node with one (not the root)");
        IndexedTable x = Tables.grown(Tables.upTo(17));
        Tables.goes(x, 0);
        shape("the node above has one then", x, 2, 6,
            "1/1 2/1 3/1 4/1 5/0 6/1 7/1 8/0 9/1 10/1 11/0 12/1 13/1 14/0 15/1 16/1");
        x = Tables.grown(Tables.upTo(8));
        Tables.goes(x, 0);
        Tables.goes(x, 1);
        shape("a root may have one", x, 2, 3, "2/1 3/1 4/1 5/0 6/1 7/1");
    }

    private static void rootIsGone() {
        Due.sentence("2 INDEXES", "A root without entries that has a child is gone: that child is the root.");
        IndexedTable x = Tables.grown(Tables.upTo(5));
        Tables.goes(x, 0);
        shape("two levels become one", x, 1, 1, "1/0 2/0 3/0 4/0");
        Tables.goes(x, 1);
        Tables.goes(x, 2);
        Tables.goes(x, 3);
        Tables.goes(x, 4);
        shape("a root without a child stays", x, 1, 1, "");
    }

    private static void comesBeforeItGoes() {
        Due.sentence("2 INDEXES", "an entry that it had not before COMES, then one that it has no more GOES.");
        IndexedTable x = Tables.grown(0, 1, 2, 3);
        x.update(0, 3, 0, 9);
        // Five for a moment: the node splits at 2, then 3 goes and the two nodes become one.
        shape("comes, then goes", x, 1, 1, "0/0 1/0 2/0 9/0");
        x = Tables.grown(0, 1, 2, 3, 4, 5, 6);
        x.update(0, 0, 0, 7);
        // 7 makes 3 .. 7 split at 5; then 0 goes, and 1 becomes one with 3 4.
        shape("splits, then joins", x, 2, 3, "1/1 2/1 3/1 4/1 5/0 6/1 7/1");
    }

    private static void equallyDeep() {
        Due.sentence("Promise 24", "each node has 2 to 4 (the root 0 to 4), all lowest ones are equally deep");
        IndexedTable x = Tables.grown();
        Due.is("empty", x.audit(), 0);
        for (int k = 0; k < 120; k++) {
            x.insert(0, (k * 53) % 120, 0, 0, 0);
            Due.is("growing", x.audit(), 0);
        }
        for (int k = 0; k < 80; k++) {
            x.remove(0, (k * 7) % 120);
            Due.is("shrinking", x.audit(), 0);
        }
        Due.is("forty are left", x.info(0, 6), 40);
    }

    /** As many entries as 512 calls can make: 320 rows, and another key for each that can still be changed. */
    private static void asFullAsCanBe() {
        Due.sentence("1 ROWS", "319, eight of them a PAGE");
        IndexedTable x = new IndexedTable();
        x.begin();
        x.begin();
        for (int place = 0; place < 320; place++) {
            Due.is("insert", x.insert(place / 160, place, 0, 0, 0), place);
        }
        Due.is("commit", x.commit(0), 160);
        Due.is("commit", x.commit(1), 160);
        x.index(0, -1, -1, true);
        Due.is("step", x.step(0, 1000), 4);
        x.begin();
        for (int place = 0; place < 180; place++) {
            Due.is("update", x.update(0, place, 0, 1000 + place), 1);
        }
        Due.is("entries", x.info(0, 6), 500);
        Due.is("the last one", x.entry(0, 499, 1), 1179);
        Due.is("audit", x.audit(), 0);
        Due.is("commit", x.commit(0), 180);
        Due.is("audit", x.audit(), 0);
    }
}
