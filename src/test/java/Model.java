import java.util.ArrayList;
import java.util.Collections;
import java.util.List;
import java.util.Map;
import java.util.NavigableMap;
import java.util.TreeMap;

/**
 * The document said a second time, with the Java library and in other ways than the class has:
 * trees of objects, made and read by recursion; steps by splitting and joining trees.
 */
final class Model {
    static final int UNKNOWN = -1, BAD = -2, LATE = -3, FULL = -4, NONE = -9;

    /** A node or, if hidden is not 0, a tree that is not shown. */
    static final class Node {
        int key;
        int value;
        int hidden;
        Node left;
        Node right;

        Node(int key, int value, Node left, Node right) {
            this.key = key;
            this.value = value;
            this.left = left;
            this.right = right;
        }

        static Node ofDigest(int digest) {
            Node node = new Node(-1, -1, null, null);
            node.hidden = digest;
            return node;
        }
    }

    static final class Reason extends Exception {
        private static final long serialVersionUID = 1;
        final int number;

        Reason(int number) {
            this.number = number;
        }
    }

    TreeMap<Integer, Integer> map = new TreeMap<>();
    final List<TreeMap<Integer, Integer>> before = new ArrayList<>();
    List<Integer> row = new ArrayList<>();
    int trusted = 0;
    final List<Integer> former = new ArrayList<>();
    final Map<Integer, TreeMap<Integer, Integer>> slots = new TreeMap<>();

    // ---- trees

    static int rankOf(int key) {
        long cube = (long) (key + 3) * (key + 3) * (key + 3);
        return (int) (4721 * cube % 10007);
    }

    static boolean above(int key, int other) {
        return rankOf(key) > rankOf(other) || rankOf(key) == rankOf(other) && key < other;
    }

    static Node treeOf(NavigableMap<Integer, Integer> pairs) {
        if (pairs.isEmpty()) {
            return null;
        }
        int top = pairs.firstKey();
        for (int key : pairs.keySet()) {
            if (above(key, top)) {
                top = key;
            }
        }
        return new Node(top, pairs.get(top), treeOf(pairs.headMap(top, false)), treeOf(pairs.tailMap(top, false)));
    }

    static int digest(Node tree) {
        if (tree == null) {
            return 0;
        }
        if (tree.hidden != 0) {
            return tree.hidden;
        }
        long x = 17;
        for (long it : new long[] {tree.key, tree.value, digest(tree.left), digest(tree.right)}) {
            x = (1000003 * x + it) % 2147483647;
        }
        return (int) x + 1;
    }

    static int size(Node tree) {
        return tree == null ? 0 : 1 + size(tree.left) + size(tree.right);
    }

    static int height(Node tree) {
        return tree == null ? 0 : 1 + Math.max(height(tree.left), height(tree.right));
    }

    static Node nodeOf(Node tree, int key) {
        if (tree == null || tree.key == key) {
            return tree;
        }
        return nodeOf(key < tree.key ? tree.left : tree.right, key);
    }

    static List<Integer> proofOf(NavigableMap<Integer, Integer> pairs, int a, int b) {
        List<Integer> items = new ArrayList<>();
        write(treeOf(pairs), 0, 99, a, b, items);
        return items;
    }

    private static void write(Node tree, int lo, int hi, int a, int b, List<Integer> items) {
        if (tree == null) {
            items.add(0);
        } else if (Math.max(lo, a) <= Math.min(hi, b)) {
            items.add(-100 - (100 * tree.key + tree.value));
            write(tree.left, lo, tree.key - 1, a, b, items);
            write(tree.right, tree.key + 1, hi, a, b, items);
        } else {
            items.add(digest(tree));
        }
    }

    // ---- the map

    private void does() {
        before.add(new TreeMap<>(map));
        if (before.size() > 14) {
            before.remove(0);
        }
    }

    static boolean bad(int number) {
        return number < 0 || number > 99;
    }

    static boolean badRange(int a, int b) {
        return bad(a) || bad(b) || a > b;
    }

    private static boolean room(Map<Integer, Integer> pairs, int key) {
        return pairs.containsKey(key) || pairs.size() < 40;
    }

    private static int orNone(Integer number) {
        return number == null ? NONE : number;
    }

    int put(int key, int value) {
        if (bad(key) || bad(value)) {
            return BAD;
        }
        if (!room(map, key)) {
            return FULL;
        }
        does();
        return orNone(map.put(key, value));
    }

    int remove(int key) {
        if (bad(key)) {
            return BAD;
        }
        if (!map.containsKey(key)) {
            return UNKNOWN;
        }
        does();
        return map.remove(key);
    }

    int get(int key) {
        return bad(key) ? BAD : orNone(map.get(key));
    }

    int scatter(int n, long x) {
        if (n < 1 || n > 20) {
            return BAD;
        }
        does();
        for (int i = 0; i < n; i++) {
            x = x * 6364136223846793005L + 1442695040888963407L;
            long upper = x >>> 33;
            int key = (int) (upper % 100);
            int value = (int) (upper / 128 % 100);
            if (room(map, key)) {
                map.put(key, value);
            }
        }
        return map.size();
    }

    int undo() {
        if (before.isEmpty()) {
            return LATE;
        }
        map = before.remove(before.size() - 1);
        return before.size();
    }

    int about(int what) {
        switch (what) {
            case 0: return map.size();
            case 1: return digest(treeOf(map));
            case 2: return height(treeOf(map));
            case 3: return map.values().stream().mapToInt(Integer::intValue).sum();
            case 4: return before.size();
            case 5: return row.size();
            case 6: return trusted;
            case 7: return former.size();
            default: return BAD;
        }
    }

    int node(int key, int what) {
        if (!map.containsKey(key)) {
            return UNKNOWN;
        }
        Node at = treeOf(map);
        int lo = 0;
        int hi = 99;
        List<Integer> way = new ArrayList<>();
        while (at.key != key) {
            way.add(at.key);
            if (key < at.key) {
                hi = at.key - 1;
                at = at.left;
            } else {
                lo = at.key + 1;
                at = at.right;
            }
        }
        switch (what) {
            case 0: return way.size();
            case 1: return way.isEmpty() ? NONE : way.get(way.size() - 1);
            case 2: return at.left == null ? NONE : at.left.key;
            case 3: return at.right == null ? NONE : at.right.key;
            case 4: return size(at);
            case 5: return digest(at);
            case 6: return lo;
            case 7: return hi;
            default: return BAD;
        }
    }

    int rank(int key) {
        return bad(key) ? BAD : rankOf(key);
    }

    // ---- proofs

    int proof(int a, int b, int what) {
        if (badRange(a, b) || what < 0 || what > 2) {
            return BAD;
        }
        int digests = 0;
        int nodes = 0;
        for (int item : proofOf(map, a, b)) {
            digests += item > 0 ? 1 : 0;
            nodes += item < 0 ? 1 : 0;
        }
        return what == 0 ? proofOf(map, a, b).size() : what == 1 ? digests : nodes;
    }

    int item(int a, int b, int place) {
        if (badRange(a, b)) {
            return BAD;
        }
        List<Integer> items = proofOf(map, a, b);
        return place < 0 || place >= items.size() ? UNKNOWN : items.get(place);
    }

    int lengths(int n, int what) {
        if (what < 0 || what > 1) {
            return BAD;
        }
        List<Integer> such = new ArrayList<>();
        for (int k = 0; k < 100; k++) {
            if (proofOf(map, k, k).size() == n) {
                such.add(k);
            }
        }
        return what == 0 ? such.size() : such.isEmpty() ? NONE : such.get(0);
    }

    // ---- the reader

    private static boolean badItem(int item) {
        return item < -10099 || item >= -99 && item <= -1;
    }

    int send(int a, int b) {
        if (badRange(a, b)) {
            return BAD;
        }
        row = proofOf(map, a, b);
        return row.size();
    }

    int tell(int item) {
        if (badItem(item)) {
            return BAD;
        }
        if (row.size() == 100) {
            return FULL;
        }
        row.add(item);
        return row.size();
    }

    int alter(int place, int item) {
        if (place < 0 || place >= row.size()) {
            return UNKNOWN;
        }
        return badItem(item) ? BAD : row.set(place, item);
    }

    int cut(int n) {
        if (n < 0 || n > row.size()) {
            return BAD;
        }
        int were = row.size();
        row = new ArrayList<>(row.subList(0, n));
        return were;
    }

    int trust() {
        return believe(digest(treeOf(map)));
    }

    int believe(int digest) {
        if (digest < 0) {
            return BAD;
        }
        former.add(0, trusted);
        if (former.size() > 8) {
            former.remove(8);
        }
        trusted = digest;
        return former.size();
    }

    private int next;

    private Node shown(int lo, int hi, int parent, int a, int b) throws Reason {
        if (next == row.size()) {
            throw new Reason(1);
        }
        int item = row.get(next++);
        if (item == 0) {
            return null;
        }
        if (item > 0) {
            if (lo > hi) {
                throw new Reason(3);
            }
            if (Math.max(lo, a) <= Math.min(hi, b)) {
                throw new Reason(5);
            }
            return Node.ofDigest(item);
        }
        int key = (-100 - item) / 100;
        if (key < lo || key > hi) {
            throw new Reason(3);
        }
        if (parent >= 0 && !above(parent, key)) {
            throw new Reason(4);
        }
        Node left = shown(lo, key - 1, key, a, b);
        return new Node(key, (-100 - item) % 100, left, shown(key + 1, hi, key, a, b));
    }

    private Node shownByRow(int a, int b) throws Reason {
        next = 0;
        Node tree = shown(0, 99, -1, a, b);
        if (next < row.size()) {
            throw new Reason(2);
        }
        return tree;
    }

    /** What a reader would have to trust, so that the row were fine; NONE: it can not be. */
    int digestOfRow(int a, int b) {
        try {
            return digest(shownByRow(a, b));
        } catch (Reason reason) {
            return NONE;
        }
    }

    int read(int a, int b) {
        if (badRange(a, b)) {
            return BAD;
        }
        try {
            int digest = digest(shownByRow(a, b));
            return digest == trusted ? 0 : former.contains(digest) ? 7 : 6;
        } catch (Reason reason) {
            return reason.number;
        }
    }

    private TreeMap<Integer, Integer> shownPairs() {
        TreeMap<Integer, Integer> pairs = new TreeMap<>();
        for (int item : row) {
            if (item < 0) {
                pairs.put((-100 - item) / 100, (-100 - item) % 100);
            }
        }
        return pairs;
    }

    int learnt(int a, int b, int what) {
        if (badRange(a, b) || what < 0 || what > 4) {
            return BAD;
        }
        if (read(a, b) != 0) {
            return LATE;
        }
        TreeMap<Integer, Integer> pairs = shownPairs();
        NavigableMap<Integer, Integer> within = pairs.subMap(a, true, b, true);
        switch (what) {
            case 0: return within.size();
            case 1: return within.values().stream().mapToInt(Integer::intValue).sum();
            case 2: return orNone(pairs.lowerKey(a));
            case 3: return orNone(pairs.higherKey(b));
            default: return pairs.size();
        }
    }

    int found(int a, int b, int place) {
        if (badRange(a, b)) {
            return BAD;
        }
        if (read(a, b) != 0) {
            return LATE;
        }
        List<Integer> all = new ArrayList<>();
        shownPairs().subMap(a, true, b, true).forEach((key, value) -> all.add(100 * key + value));
        Collections.sort(all);
        return place < 0 || place >= all.size() ? NONE : all.get(place);
    }

    /** The two trees of what is less and what is more than a key that the tree has not. */
    private static Node[] split(Node tree, int key) {
        if (tree == null) {
            return new Node[] {null, null};
        }
        if (tree.hidden != 0) {
            throw new IllegalStateException("a tree that is not shown would be split");
        }
        if (tree.key < key) {
            Node[] parts = split(tree.right, key);
            return new Node[] {new Node(tree.key, tree.value, tree.left, parts[0]), parts[1]};
        }
        Node[] parts = split(tree.left, key);
        return new Node[] {parts[0], new Node(tree.key, tree.value, parts[1], tree.right)};
    }

    private static Node join(Node less, Node more) {
        if (less == null || more == null) {
            return less == null ? more : less;
        }
        if (less.hidden != 0 || more.hidden != 0) {
            throw new IllegalStateException("a tree that is not shown would be joined");
        }
        if (above(less.key, more.key)) {
            return new Node(less.key, less.value, less.left, join(less.right, more));
        }
        return new Node(more.key, more.value, join(less, more.left), more.right);
    }

    private static Node with(Node tree, int key, int value) {
        if (tree == null || tree.hidden == 0 && above(key, tree.key)) {
            Node[] parts = split(tree, key);
            return new Node(key, value, parts[0], parts[1]);
        }
        if (tree.key == key) {
            return new Node(key, value, tree.left, tree.right);
        }
        if (key < tree.key) {
            return new Node(tree.key, tree.value, with(tree.left, key, value), tree.right);
        }
        return new Node(tree.key, tree.value, tree.left, with(tree.right, key, value));
    }

    private static Node without(Node tree, int key) {
        if (tree.key == key) {
            return join(tree.left, tree.right);
        }
        if (key < tree.key) {
            return new Node(tree.key, tree.value, without(tree.left, key), tree.right);
        }
        return new Node(tree.key, tree.value, tree.left, without(tree.right, key));
    }

    int step(int key, int value) {
        if (bad(key) || bad(value) && value != NONE) {
            return BAD;
        }
        int a = Math.max(0, key - 1);
        int b = Math.min(99, key + 1);
        if (read(a, b) != 0) {
            return LATE;
        }
        boolean had = shownPairs().containsKey(key);
        if (value == NONE && !had) {
            return UNKNOWN;
        }
        try {
            Node tree = shownByRow(a, b);
            return digest(value == NONE ? without(tree, key) : with(tree, key, value));
        } catch (Reason reason) {
            throw new IllegalStateException(reason);
        }
    }

    int follow(int key, int value) {
        int digest = step(key, value);
        return digest < 0 ? digest : believe(digest);
    }

    int former(int place) {
        return place < 0 || place >= former.size() ? UNKNOWN : former.get(place);
    }

    // ---- judged, slots

    int judge(int n, long told) {
        if (n < 1 || n > 3 || told < 0 || Long.toString(told).length() > 5 * n) {
            return BAD;
        }
        String figures = String.format("%0" + 5 * n + "d", told);
        TreeMap<Integer, Integer> pairs = new TreeMap<>(map);
        for (int place = 0; place < n; place++) {
            String doing = figures.substring(5 * place, 5 * place + 5);
            int key = Integer.parseInt(doing.substring(1, 3));
            int last = Integer.parseInt(doing.substring(3));
            if (!judged(pairs, doing.charAt(0), key, last)) {
                return place;
            }
        }
        return NONE;
    }

    private static boolean judged(TreeMap<Integer, Integer> pairs, char kind, int key, int last) {
        switch (kind) {
            case '1':
                if (!room(pairs, key)) {
                    return false;
                }
                pairs.put(key, last);
                return true;
            case '2': return last == 0 && pairs.remove(key) != null;
            case '3': return orNone(pairs.get(key)) == last;
            case '4': {
                Model other = new Model();
                other.map = pairs;
                return other.node(key, 0) == last;
            }
            case '5': return proofOf(pairs, key, key).size() == last;
            default: return false;
        }
    }

    private static boolean badSlot(int slot) {
        return slot != 0 && slot != 1;
    }

    int keep(int slot) {
        if (badSlot(slot)) {
            return UNKNOWN;
        }
        slots.put(slot, new TreeMap<>(map));
        return map.size();
    }

    int again(int slot) {
        if (badSlot(slot)) {
            return UNKNOWN;
        }
        if (!slots.containsKey(slot)) {
            return LATE;
        }
        map = new TreeMap<>(slots.get(slot));
        before.clear();
        return map.size();
    }

    int differ(int slot, int what) {
        if (badSlot(slot)) {
            return UNKNOWN;
        }
        if (!slots.containsKey(slot)) {
            return LATE;
        }
        TreeMap<Integer, Integer> kept = slots.get(slot);
        List<Integer> otherwise = new ArrayList<>();
        for (int key = 0; key < 100; key++) {
            if (orNone(map.get(key)) != orNone(kept.get(key))) {
                otherwise.add(key);
            }
        }
        List<Node> passed = new ArrayList<>();
        passOver(treeOf(map), treeOf(kept), passed);
        switch (what) {
            case 0: return otherwise.size();
            case 1: return otherwise.isEmpty() ? NONE : otherwise.get(0);
            case 2: return passed.size();
            case 3: return passed.stream().mapToInt(Model::size).sum();
            default: return BAD;
        }
    }

    private static void passOver(Node tree, Node whole, List<Node> passed) {
        if (tree == null) {
            return;
        }
        Node like = nodeOf(whole, tree.key);
        if (like != null && digest(like) == digest(tree)) {
            passed.add(tree);
            return;
        }
        passOver(tree.left, whole, passed);
        passOver(tree.right, whole, passed);
    }
}
