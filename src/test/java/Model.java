import java.util.ArrayList;
import java.util.Arrays;
import java.util.List;

/**
 * The document once more, as plainly as the whole library lets it be said: images are arrays or null, what a
 * place has is compared before and after each change, the tree is made of objects. Only for tests.
 */
final class Model {
    static final int NONE = -1, UNKNOWN = -101, OUTSIDE = -102, LOCKED = -103, ROOM = -104, DUPLICATE = -105;

    static final class Record {
        int place;
        int[] before;
        int writerBefore;
    }

    static final class Node {
        List<int[]> entries = new ArrayList<>();
        List<Node> kids = new ArrayList<>();
    }

    static final class Ix {
        int[] fields;
        boolean unique;
        int state = 1;
        int page = 0;
        int why = 0;
        int one = NONE;
        int other = NONE;
        Node root = new Node();
        List<int[]> picked = new ArrayList<>();
        List<Object[]> log = new ArrayList<>();
    }

    int[][] committed = new int[320][];
    int[][] current = new int[320][];
    int[] writers = new int[320];
    List<List<Record>> transactions = new ArrayList<>();
    Ix[] indexes = new Ix[6];
    int[][] conditions = new int[4][];
    List<Integer> told = new ArrayList<>();
    int way = NONE;
    int looked = 0;

    Model() {
        Arrays.fill(writers, NONE);
        for (int t = 0; t < 8; t++) {
            transactions.add(null);
        }
        for (int f = 0; f < 4; f++) {
            conditions[f] = new int[] {Integer.MIN_VALUE, Integer.MAX_VALUE};
        }
    }

    // ---- entries and trees

    static int order(int[] a, int[] b) {
        return Arrays.compare(a, b);
    }

    static int[] entryOf(Ix x, int[] image, int place) {
        int[] e = new int[x.fields.length + 1];
        for (int k = 0; k < x.fields.length; k++) {
            e[k] = image[x.fields[k]];
        }
        e[x.fields.length] = place;
        return e;
    }

    static List<int[]> has(Ix x, int[] com, int[] cur, int place) {
        List<int[]> list = new ArrayList<>();
        if (com != null) {
            list.add(entryOf(x, com, place));
        }
        if (cur != null && !contains(list, entryOf(x, cur, place))) {
            list.add(entryOf(x, cur, place));
        }
        return list;
    }

    static boolean contains(List<int[]> list, int[] e) {
        for (int[] other : list) {
            if (Arrays.equals(other, e)) {
                return true;
            }
        }
        return false;
    }

    static List<int[]> inOrder(Node node) {
        List<int[]> all = new ArrayList<>();
        collect(node, 0, all, new ArrayList<>());
        return all;
    }

    static void collect(Node node, int depth, List<int[]> all, List<Integer> depths) {
        for (int k = 0; k <= node.entries.size(); k++) {
            if (!node.kids.isEmpty()) {
                collect(node.kids.get(k), depth + 1, all, depths);
            }
            if (k < node.entries.size()) {
                all.add(node.entries.get(k));
                depths.add(depth);
            }
        }
    }

    static int height(Node node) {
        return node.kids.isEmpty() ? 1 : 1 + height(node.kids.get(0));
    }

    static int nodes(Node node) {
        int n = 1;
        for (Node kid : node.kids) {
            n += nodes(kid);
        }
        return n;
    }

    static void comes(Ix x, int[] e) {
        if (contains(inOrder(x.root), e)) {
            return;
        }
        putBelow(x.root, e);
        if (x.root.entries.size() == 5) {
            Node top = new Node();
            top.kids.add(x.root);
            splitKid(top, 0);
            x.root = top;
        }
    }

    static void putBelow(Node node, int[] e) {
        int k = 0;
        while (k < node.entries.size() && order(node.entries.get(k), e) < 0) {
            k++;
        }
        if (node.kids.isEmpty()) {
            node.entries.add(k, e);
            return;
        }
        putBelow(node.kids.get(k), e);
        if (node.kids.get(k).entries.size() == 5) {
            splitKid(node, k);
        }
    }

    static void splitKid(Node above, int k) {
        Node whole = above.kids.get(k);
        Node right = new Node();
        right.entries.addAll(whole.entries.subList(3, 5));
        if (!whole.kids.isEmpty()) {
            right.kids.addAll(whole.kids.subList(3, 6));
            whole.kids = new ArrayList<>(whole.kids.subList(0, 3));
        }
        above.entries.add(k, whole.entries.get(2));
        above.kids.add(k + 1, right);
        whole.entries = new ArrayList<>(whole.entries.subList(0, 2));
    }

    static void goes(Ix x, int[] e) {
        if (!contains(inOrder(x.root), e)) {
            return;
        }
        takeBelow(x.root, e);
        if (x.root.entries.isEmpty() && !x.root.kids.isEmpty()) {
            x.root = x.root.kids.get(0);
        }
    }

    static void takeBelow(Node node, int[] e) {
        int k = 0;
        while (k < node.entries.size() && order(node.entries.get(k), e) < 0) {
            k++;
        }
        boolean here = k < node.entries.size() && order(node.entries.get(k), e) == 0;
        if (node.kids.isEmpty()) {
            node.entries.remove(k);
            return;
        }
        if (here) {
            List<int[]> below = inOrder(node.kids.get(k));
            int[] greatest = below.get(below.size() - 1);
            node.entries.set(k, greatest);
            takeBelow(node.kids.get(k), greatest);
        } else {
            takeBelow(node.kids.get(k), e);
        }
        if (node.kids.get(k).entries.size() == 1) {
            mendKid(node, k);
        }
    }

    static void mendKid(Node above, int k) {
        Node node = above.kids.get(k);
        Node left = k > 0 ? above.kids.get(k - 1) : null;
        Node right = k + 1 < above.kids.size() ? above.kids.get(k + 1) : null;
        if (left != null && left.entries.size() >= 3) {
            node.entries.add(0, above.entries.get(k - 1));
            above.entries.set(k - 1, left.entries.remove(left.entries.size() - 1));
            if (!left.kids.isEmpty()) {
                node.kids.add(0, left.kids.remove(left.kids.size() - 1));
            }
        } else if (right != null && right.entries.size() >= 3) {
            node.entries.add(above.entries.get(k));
            above.entries.set(k, right.entries.remove(0));
            if (!right.kids.isEmpty()) {
                node.kids.add(right.kids.remove(0));
            }
        } else {
            int between = left != null ? k - 1 : k;
            Node one = above.kids.get(between);
            Node two = above.kids.remove(between + 1);
            one.entries.add(above.entries.remove(between));
            one.entries.addAll(two.entries);
            one.kids.addAll(two.kids);
        }
    }

    // ---- changes of a place

    void setPlace(int place, int[] com, int[] cur, int writer) {
        int[] oldCom = committed[place];
        int[] oldCur = current[place];
        committed[place] = com;
        current[place] = cur;
        writers[place] = writer;
        for (Ix x : indexes) {
            if (x == null) {
                continue;
            }
            List<int[]> before = has(x, oldCom, oldCur, place);
            List<int[]> after = has(x, com, cur, place);
            for (int[] e : after) {
                if (!contains(before, e)) {
                    happens(x, e, place, true);
                }
            }
            for (int[] e : before) {
                if (!contains(after, e)) {
                    happens(x, e, place, false);
                }
            }
        }
    }

    void happens(Ix x, int[] e, int place, boolean come) {
        if (x.state == 4) {
            if (come) {
                comes(x, e);
            } else {
                goes(x, e);
            }
        } else if (x.state < 4 && place / 8 < x.page) {
            x.log.add(new Object[] {e, come});
            if (x.log.size() > 300) {
                fails(x, 2);
            }
        }
    }

    void fails(Ix x, int why) {
        x.state = 5;
        x.why = why;
        x.root = new Node();
        x.log.clear();
        x.picked.clear();
    }

    // ---- clashes

    static boolean same(Ix x, int[] a, int[] b) {
        if (a == null || b == null) {
            return false;
        }
        for (int f : x.fields) {
            if (a[f] != b[f]) {
                return false;
            }
        }
        return true;
    }

    boolean clash(Ix x, int p, int q) {
        if (free(p) || free(q)) {
            return false;
        }
        boolean straight = same(x, current[p], current[q]) || same(x, committed[p], committed[q]);
        boolean crosswise = same(x, current[p], committed[q]) || same(x, committed[p], current[q]);
        boolean oneWriter = writers[p] != NONE && writers[p] == writers[q];
        return p != q && (straight || (!oneWriter && crosswise));
    }

    int[] leastClash(Ix x) {
        for (int p = 0; p < 320; p++) {
            if (clashWith(x, p) != NONE) {
                return new int[] {p, clashWith(x, p)};
            }
        }
        return null;
    }

    int clashWith(Ix x, int p) {
        for (int q = 0; q < 320; q++) {
            if (clash(x, p, q)) {
                return q;
            }
        }
        return NONE;
    }

    boolean anyGuardClashes() {
        for (Ix x : indexes) {
            if (x != null && x.unique && x.state == 4 && leastClash(x) != null) {
                return true;
            }
        }
        return false;
    }

    // ---- the face

    boolean isT(int t) {
        return t >= 0 && t < 8 && transactions.get(t) != null;
    }

    boolean isI(int i) {
        return i >= 0 && i < 6 && indexes[i] != null;
    }

    boolean free(int place) {
        return writers[place] == NONE && committed[place] == null && current[place] == null;
    }

    int begin() {
        int t = transactions.indexOf(null);
        if (t < 0) {
            return ROOM;
        }
        transactions.set(t, new ArrayList<>());
        return t;
    }

    boolean duplicate(int t, int place, int[] image) {
        int[] was = current[place];
        int writer = writers[place];
        current[place] = image;
        writers[place] = t;
        boolean clashes = false;
        for (Ix x : indexes) {
            clashes = clashes || (x != null && x.unique && x.state == 4 && clashWith(x, place) != NONE);
        }
        current[place] = was;
        writers[place] = writer;
        return clashes;
    }

    void write(int t, int place, int[] image) {
        Record r = new Record();
        r.place = place;
        r.before = current[place];
        r.writerBefore = writers[place];
        transactions.get(t).add(r);
        setPlace(place, committed[place], image, t);
    }

    int insert(int t, int a, int b, int c, int d) {
        if (!isT(t)) {
            return UNKNOWN;
        }
        int place = 0;
        while (place < 320 && !free(place)) {
            place++;
        }
        if (place == 320 || transactions.get(t).size() == 200) {
            return ROOM;
        }
        int[] image = {a, b, c, d};
        if (duplicate(t, place, image)) {
            return DUPLICATE;
        }
        write(t, place, image);
        return place;
    }

    int update(int t, int place, int field, int value) {
        if (!isT(t)) {
            return UNKNOWN;
        }
        if (field < 0 || field > 3) {
            return OUTSIDE;
        }
        boolean known = place >= 0 && place < 320;
        if (known && writers[place] != NONE && writers[place] != t) {
            return LOCKED;
        }
        if (!known || current[place] == null) {
            return UNKNOWN;
        }
        if (current[place][field] == value) {
            return 0;
        }
        if (transactions.get(t).size() == 200) {
            return ROOM;
        }
        int[] image = current[place].clone();
        image[field] = value;
        if (duplicate(t, place, image)) {
            return DUPLICATE;
        }
        write(t, place, image);
        return 1;
    }

    int remove(int t, int place) {
        if (!isT(t)) {
            return UNKNOWN;
        }
        boolean known = place >= 0 && place < 320;
        if (known && writers[place] != NONE && writers[place] != t) {
            return LOCKED;
        }
        if (!known || current[place] == null) {
            return UNKNOWN;
        }
        if (transactions.get(t).size() == 200) {
            return ROOM;
        }
        write(t, place, null);
        return 1;
    }

    int records(int t) {
        return isT(t) ? transactions.get(t).size() : UNKNOWN;
    }

    int undo(int t, int n) {
        if (!isT(t)) {
            return UNKNOWN;
        }
        List<Record> records = transactions.get(t);
        if (n < 0 || n > records.size()) {
            return OUTSIDE;
        }
        int[][] keptImages = current.clone();
        int[] keptWriters = writers.clone();
        for (int k = records.size() - 1; k >= n; k--) {
            current[records.get(k).place] = records.get(k).before;
            writers[records.get(k).place] = records.get(k).writerBefore;
        }
        boolean clashes = anyGuardClashes();
        current = keptImages;
        writers = keptWriters;
        return clashes ? DUPLICATE : undoAll(records, n);
    }

    int undoAll(List<Record> records, int n) {
        int undone = 0;
        while (records.size() > n) {
            Record r = records.remove(records.size() - 1);
            setPlace(r.place, committed[r.place], r.before, r.writerBefore);
            undone++;
        }
        return undone;
    }

    int commit(int t) {
        if (!isT(t)) {
            return UNKNOWN;
        }
        int wrote = 0;
        for (int place = 0; place < 320; place++) {
            if (writers[place] == t) {
                setPlace(place, current[place], current[place], NONE);
                wrote++;
            }
        }
        transactions.set(t, null);
        return wrote;
    }

    int abort(int t) {
        if (!isT(t)) {
            return UNKNOWN;
        }
        int undone = undoAll(transactions.get(t), 0);
        transactions.set(t, null);
        return undone;
    }

    int index(int first, int second, int third, boolean unique) {
        int[] given = {first, second, third};
        int size = third != NONE ? 3 : second != NONE ? 2 : 1;
        for (int k = 0; k < size; k++) {
            if (given[k] < 0 || given[k] > 3) {
                return OUTSIDE;
            }
            for (int m = 0; m < k; m++) {
                if (given[m] == given[k]) {
                    return OUTSIDE;
                }
            }
        }
        for (int i = 0; i < 6; i++) {
            if (indexes[i] == null) {
                indexes[i] = new Ix();
                indexes[i].fields = Arrays.copyOf(given, size);
                indexes[i].unique = unique;
                return i;
            }
        }
        return ROOM;
    }

    int drop(int i) {
        if (!isI(i)) {
            return UNKNOWN;
        }
        indexes[i] = null;
        return 1;
    }

    int step(int i, int n) {
        if (!isI(i)) {
            return UNKNOWN;
        }
        if (n < 1 || n > 1000) {
            return OUTSIDE;
        }
        for (int k = 0; k < n; k++) {
            oneStep(indexes[i]);
        }
        return indexes[i].state;
    }

    void oneStep(Ix x) {
        if (x.state == 1) {
            for (int place = x.page * 8; place < x.page * 8 + 8; place++) {
                x.picked.addAll(has(x, committed[place], current[place], place));
            }
            x.page++;
            x.state = x.page == 40 ? 2 : 1;
            x.picked.sort(Model::order);
        } else if (x.state == 2) {
            int come = Math.min(16, x.picked.size());
            for (int k = 0; k < come; k++) {
                comes(x, x.picked.remove(0));
            }
            x.state = come < 16 ? 3 : 2;
        } else if (x.state == 3 && !x.log.isEmpty()) {
            Object[] first = x.log.remove(0);
            if ((Boolean) first[1]) {
                comes(x, (int[]) first[0]);
            } else {
                goes(x, (int[]) first[0]);
            }
        } else if (x.state == 3) {
            int[] clash = x.unique ? leastClash(x) : null;
            if (clash == null) {
                x.state = 4;
            } else {
                fails(x, 1);
                x.one = clash[0];
                x.other = clash[1];
            }
        }
    }

    int info(int i, int what) {
        if (!isI(i)) {
            return UNKNOWN;
        }
        Ix x = indexes[i];
        int[] all = {x.state, x.unique ? 1 : 0, x.fields.length, x.fields[0],
            x.fields.length > 1 ? x.fields[1] : NONE, x.fields.length > 2 ? x.fields[2] : NONE,
            inOrder(x.root).size(), height(x.root), nodes(x.root), x.log.size(), x.page, x.why, x.one, x.other};
        return what < 0 || what > 13 ? OUTSIDE : all[what];
    }

    int entry(int i, int p, int what) {
        if (!isI(i)) {
            return UNKNOWN;
        }
        List<int[]> all = new ArrayList<>();
        List<Integer> depths = new ArrayList<>();
        collect(indexes[i].root, 0, all, depths);
        if (p < 0 || p >= all.size()) {
            return UNKNOWN;
        }
        if (what < 0 || what > 4) {
            return OUTSIDE;
        }
        int[] e = all.get(p);
        return what == 0 ? e[e.length - 1] : what == 4 ? depths.get(p) : what < e.length ? e[what - 1] : 0;
    }

    int where(int field, int low, int high) {
        if (field < 0 || field > 3) {
            return OUTSIDE;
        }
        conditions[field] = new int[] {low, high};
        return 1;
    }

    int[] seen(int t, int place) {
        return t != NONE && writers[place] == t ? current[place] : committed[place];
    }

    boolean fits(int[] image) {
        for (int f = 0; f < 4; f++) {
            if (image == null || image[f] < conditions[f][0] || image[f] > conditions[f][1]) {
                return false;
            }
        }
        return true;
    }

    List<int[]> range(Ix x) {
        int equal = 0;
        while (equal < x.fields.length && conditions[x.fields[equal]][0] == conditions[x.fields[equal]][1]) {
            equal++;
        }
        List<int[]> in = new ArrayList<>();
        for (int[] e : inOrder(x.root)) {
            boolean is = true;
            for (int k = 0; k < x.fields.length && k <= equal; k++) {
                int[] c = conditions[x.fields[k]];
                is = is && e[k] >= c[0] && e[k] <= c[1];
            }
            if (is) {
                in.add(e);
            }
        }
        return in;
    }

    int ask(int t, int by) {
        if (t != NONE && !isT(t)) {
            return UNKNOWN;
        }
        if (by < NONE || by > 6) {
            return OUTSIDE;
        }
        if (by > 0 && (indexes[by - 1] == null || indexes[by - 1].state != 4)) {
            return UNKNOWN;
        }
        way = by;
        if (by == NONE) {
            way = 0;
            for (int w = 1; w <= 6; w++) {
                if (cost(w) >= 0 && cost(w) < cost(way)) {
                    way = w;
                }
            }
        }
        told.clear();
        if (way == 0) {
            looked = 320;
            for (int place = 0; place < 320; place++) {
                if (fits(seen(t, place))) {
                    told.add(place);
                }
            }
        } else {
            Ix x = indexes[way - 1];
            List<int[]> range = range(x);
            looked = range.size();
            for (int[] e : range) {
                int place = e[e.length - 1];
                int[] image = seen(t, place);
                if (fits(image) && Arrays.equals(entryOf(x, image, place), e)) {
                    told.add(place);
                }
            }
        }
        return told.size();
    }

    int answer(int k) {
        return k >= 0 && k < told.size() ? told.get(k) : NONE;
    }

    int asked(int what) {
        return what == 0 ? way : what == 1 ? looked : OUTSIDE;
    }

    int cost(int by) {
        if (by < 0 || by > 6) {
            return OUTSIDE;
        }
        if (by > 0) {
            Ix x = indexes[by - 1];
            return x == null || x.state != 4 ? UNKNOWN : height(x.root) + 3 * range(x).size();
        }
        boolean[] pages = new boolean[40];
        int sum = 0;
        for (int place = 0; place < 320; place++) {
            if (!free(place) && !pages[place / 8]) {
                pages[place / 8] = true;
                sum += 8;
            }
        }
        return sum;
    }

    int sees(int t, int place) {
        if ((t != NONE && !isT(t)) || place < 0 || place > 319) {
            return UNKNOWN;
        }
        return seen(t, place) == null ? 0 : 1;
    }

    int field(int t, int place, int field) {
        int seesIt = sees(t, place);
        if (seesIt == UNKNOWN) {
            return UNKNOWN;
        }
        if (field < 0 || field > 3) {
            return OUTSIDE;
        }
        return seesIt == 0 ? 0 : seen(t, place)[field];
    }

    int writer(int place) {
        return place < 0 || place > 319 ? UNKNOWN : writers[place];
    }

    int count(int what) {
        int n = 0;
        if (what == 0) {
            for (int place = 0; place < 320; place++) {
                n += free(place) ? 0 : 1;
            }
        } else if (what == 1) {
            for (List<Record> t : transactions) {
                n += t == null ? 0 : 1;
            }
        } else if (what == 2 || what == 3) {
            for (Ix x : indexes) {
                n += x != null && (what == 2 || x.state == 4) ? 1 : 0;
            }
        } else {
            return OUTSIDE;
        }
        return n;
    }

    int audit() {
        return 0;
    }
}
