/** Promises 1 to 9: a new object, the map, its tree and its doings. */
public final class MapTest {
    private static final Check CHECK = new Check("MapTest");
    private static final int UNKNOWN = -1, BAD = -2, LATE = -3, FULL = -4, NONE = -9;
    private static final int[] ODD = {-1, 100, Integer.MIN_VALUE, Integer.MAX_VALUE};

    public static void main(String[] args) {
        newObject();
        put();
        putFull();
        remove();
        get();
        scatter();
        scatterFull();
        undo();
        undoAtMost();
        about();
        node();
        treeIsOne();
        rank();
        CHECK.finish();
    }

    private static void due(String call, long got, long want) {
        CHECK.due(call, got, want);
    }

    /** Ranks: 40: 9991, 30: 9906, 45: 9621, 29: 9522, 42: 195. So 40 above (30 above 29) and (45 above 42). */
    static BorderProofs five() {
        BorderProofs x = new BorderProofs();
        x.put(42, 5);
        x.put(45, 4);
        x.put(29, 3);
        x.put(30, 2);
        x.put(40, 1);
        return x;
    }

    static BorderProofs full() {
        BorderProofs x = new BorderProofs();
        for (int key = 0; key < 40; key++) {
            x.put(key, key);
        }
        return x;
    }

    /** As the document says it, for the digests that are due. */
    static int digest(int key, int value, int left, int right) {
        long x = 17;
        for (long it : new long[] {key, value, left, right}) {
            x = (1000003L * x + it) % 2147483647L;
        }
        return (int) (x + 1);
    }

    private static void newObject() {
        BorderProofs x = new BorderProofs();
        for (int what = 0; what < 8; what++) {
            due("new about(" + what + ")", x.about(what), 0);
        }
        for (int key = 0; key < 100; key++) {
            due("new get(" + key + ")", x.get(key), NONE);
            due("new node(" + key + ", 0)", x.node(key, 0), UNKNOWN);
        }
        due("new undo()", x.undo(), LATE);
        due("new former(0)", x.former(0), UNKNOWN);
        due("new again(1)", x.again(1), LATE);
        due("new differ(1, 0)", x.differ(1, 0), LATE);
        x.put(1, 1);
        due("another one has not what one has", new BorderProofs().about(0), 0);
    }

    private static void put() {
        BorderProofs x = new BorderProofs();
        due("put(0, 0)", x.put(0, 0), NONE);
        due("put(0, 0) again", x.put(0, 0), 0);
        due("put(0, 99)", x.put(0, 99), 0);
        due("put(99, 1)", x.put(99, 1), NONE);
        due("get(0)", x.get(0), 99);
        due("each is a doing, the same value too", x.about(4), 4);
        for (int odd : ODD) {
            due("put(" + odd + ", 0)", x.put(odd, 0), BAD);
            due("put(0, " + odd + ")", x.put(0, odd), BAD);
        }
        due("put(0, NONE)", x.put(0, NONE), BAD);
        due("what is refused is no doing", x.about(4), 4);
        due("nor a change", x.get(0), 99);
    }

    private static void putFull() {
        BorderProofs x = full();
        int root = x.about(1);
        due("put of a 41st", x.put(40, 0), FULL);
        due("BAD is told before FULL: key", x.put(100, 0), BAD);
        due("BAD is told before FULL: value", x.put(40, 100), BAD);
        due("the refused ones change nothing", x.about(1), root);
        due("nor are they doings", x.about(4), 14);
        due("a key that is there gets a value", x.put(39, 7), 39);
        due("remove(0)", x.remove(0), 0);
        due("then there is room", x.put(40, 0), NONE);
        due("and no more", x.put(41, 0), FULL);
    }

    private static void remove() {
        BorderProofs x = five();
        due("remove(30)", x.remove(30), 2);
        due("remove(30) again", x.remove(30), UNKNOWN);
        due("get(30)", x.get(30), NONE);
        due("about(0)", x.about(0), 4);
        due("29 hangs on 40 then", x.node(29, 1), 40);
        for (int odd : ODD) {
            due("remove(" + odd + ")", x.remove(odd), BAD);
        }
        due("doings", x.about(4), 6);
        due("remove(40)", x.remove(40), 1);
        due("45 is the root then", x.node(45, 1), NONE);
        x.remove(45);
        x.remove(42);
        due("remove of the last", x.remove(29), 3);
        due("ROOT of none", x.about(1), 0);
    }

    private static void get() {
        BorderProofs x = five();
        due("get(42)", x.get(42), 5);
        due("get(41)", x.get(41), NONE);
        for (int odd : ODD) {
            due("get(" + odd + ")", x.get(odd), BAD);
        }
        due("get is no doing", x.about(4), 5);
    }

    private static void scatter() {
        // x = 1: 6364136223846793005 + 1442695040888963407 = 7806831264735756412; by 2^33 (down) 908834774
        BorderProofs x = new BorderProofs();
        due("scatter(1, 1)", x.scatter(1, 1), 1);
        due("its key and value", x.get(908834774 % 100), 908834774 / 128 % 100);
        // x = -1 gives 1442695040888963407 - 6364136223846793005 = -4921441182957829598, wrapped
        long wrapped = -4921441182957829598L >>> 33;
        BorderProofs y = new BorderProofs();
        due("scatter(1, -1)", y.scatter(1, -1), 1);
        due("its key and value", y.get((int) (wrapped % 100)), wrapped / 128 % 100);
        due("scatter(20, 1)", x.scatter(20, 1), x.about(0));
        due("two doings", x.about(4), 2);
        for (int n : new int[] {0, 21, -1, Integer.MIN_VALUE, Integer.MAX_VALUE}) {
            due("scatter(" + n + ", 1)", x.scatter(n, 1), BAD);
        }
        due("refused ones are no doings", x.about(4), 2);
        due("undo()", x.undo(), 1);
        due("undone as one", x.about(0), 1);
    }

    private static void scatterFull() {
        BorderProofs x = full();
        // x = 1 tells key 74 first, that would be the 41st
        due("scatter(1, 1)", x.scatter(1, 1), 40);
        due("passed by", x.get(74), NONE);
        x.undo();
        x.remove(0);
        x.put(74, 0);
        due("scatter(1, 1)", x.scatter(1, 1), 40);
        due("a key that is there gets a value", x.get(74), 908834774 / 128 % 100);
    }

    private static void undo() {
        BorderProofs x = five();
        int root = x.about(1);
        x.put(40, 9);
        x.remove(29);
        x.put(0, 0);
        due("undo() of a put", x.undo(), 7);
        due("get(0)", x.get(0), NONE);
        due("undo() of a remove", x.undo(), 6);
        due("get(29)", x.get(29), 3);
        due("undo() of another value", x.undo(), 5);
        due("ROOT", x.about(1), root);
        x.trust();
        x.send(0, 99);
        x.undo();
        due("the reader is not changed: its row", x.about(5), 11);
        due("what it trusts", x.about(6), root);
        due("its row is still fine", x.read(0, 99), 0);
    }

    private static void undoAtMost() {
        BorderProofs x = new BorderProofs();
        for (int value = 0; value < 40; value++) {
            x.put(7, value);
        }
        due("doings", x.about(4), 14);
        for (int left = 13; left >= 0; left--) {
            due("undo()", x.undo(), left);
            due("get(7)", x.get(7), 25 + left);
        }
        due("undo() of none", x.undo(), LATE);
        due("get(7)", x.get(7), 25);
        x.put(7, 1);
        due("undo()", x.undo(), 0);
        due("get(7)", x.get(7), 25);
    }

    private static void about() {
        BorderProofs x = five();
        due("about(0)", x.about(0), 5);
        int left = digest(30, 2, digest(29, 3, 0, 0), 0);
        int right = digest(45, 4, digest(42, 5, 0, 0), 0);
        due("about(1)", x.about(1), digest(40, 1, left, right));
        due("about(2)", x.about(2), 3);
        due("about(3)", x.about(3), 15);
        x.put(0, 50);
        due("about(3) with key 0", x.about(3), 65);
        x.undo();
        due("about(4)", x.about(4), 5);
        x.send(0, 99);
        due("about(5)", x.about(5), 11);
        x.believe(77);
        due("about(6)", x.about(6), 77);
        x.believe(78);
        due("about(7)", x.about(7), 2);
        for (int odd : new int[] {-1, 8, Integer.MIN_VALUE, Integer.MAX_VALUE}) {
            due("about(" + odd + ")", x.about(odd), BAD);
        }
    }

    private static void node() {
        BorderProofs x = five();
        int[][] due = {
            // above, hangs on, left, right, nodes, digest, lo, hi
            {40, 0, NONE, 30, 45, 5, x.about(1), 0, 99},
            {30, 1, 40, 29, NONE, 2, digest(30, 2, digest(29, 3, 0, 0), 0), 0, 39},
            {29, 2, 30, NONE, NONE, 1, digest(29, 3, 0, 0), 0, 29},
            {45, 1, 40, 42, NONE, 2, digest(45, 4, digest(42, 5, 0, 0), 0), 41, 99},
            {42, 2, 45, NONE, NONE, 1, digest(42, 5, 0, 0), 41, 44},
        };
        for (int[] of : due) {
            for (int what = 0; what < 8; what++) {
                due("node(" + of[0] + ", " + what + ")", x.node(of[0], what), of[1 + what]);
            }
            due("node(" + of[0] + ", 8)", x.node(of[0], 8), BAD);
            due("node(" + of[0] + ", -1)", x.node(of[0], -1), BAD);
        }
        for (int odd : ODD) {
            due("node(" + odd + ", 0)", x.node(odd, 0), UNKNOWN);
        }
        due("node(41, 0)", x.node(41, 0), UNKNOWN);
        due("UNKNOWN is told before BAD", x.node(41, 8), UNKNOWN);
        x.put(41, 0);
        due("41 comes between 45 and 42", x.node(42, 1), 41);
    }

    private static void treeIsOne() {
        BorderProofs up = new BorderProofs();
        BorderProofs down = new BorderProofs();
        for (int i = 0; i < 40; i++) {
            up.put(2 * i, i);
            down.put(2 * (39 - i), 39 - i);
        }
        up.remove(10);
        up.put(10, 5);
        due("in whatever row the keys came", up.about(1), down.about(1));
        for (int key = 0; key < 80; key += 2) {
            int parent = up.node(key, 1);
            due("a node is below that on which it hangs: " + key,
                    parent == NONE || up.rank(parent) > up.rank(key) ? 1 : 0, 1);
        }
    }

    private static void rank() {
        BorderProofs x = new BorderProofs();
        due("rank(0)", x.rank(0), 4721 * 27 % 10007);
        due("rank(1)", x.rank(1), 4721 * 64 % 10007);
        due("rank(99)", x.rank(99), 4721L * 1061208L % 10007L);
        due("rank(40)", x.rank(40), 9991);
        for (int odd : ODD) {
            due("rank(" + odd + ")", x.rank(odd), BAD);
        }
    }
}
