/** Promises 13 to 24: the reader, its row, what it trusts, learns and follows. */
public final class ReaderTest {
    private static final Check CHECK = new Check("ReaderTest");
    private static final int UNKNOWN = -1, BAD = -2, LATE = -3, FULL = -4, NONE = -9;
    private static final int FINE = 0, SHORT = 1, LONG = 2, KEY = 3, RANK = 4, HIDDEN = 5, ROOT = 6, STALE = 7;

    public static void main(String[] args) {
        send();
        tell();
        alter();
        cut();
        trust();
        believe();
        readBad();
        readShortAndLong();
        readKey();
        readRank();
        readHidden();
        readFirstReason();
        readDigest();
        readDeep();
        learnt();
        learntOfTheLeast();
        found();
        step();
        stepRefused();
        stepAtTheEnds();
        stepWithMadeUpDigests();
        follow();
        followManySteps();
        former();
        CHECK.finish();
    }

    private static void due(String call, long got, long want) {
        CHECK.due(call, got, want);
    }

    private static int nodeItem(int key, int value) {
        return -100 - (100 * key + value);
    }

    private static BorderProofs told(int... items) {
        BorderProofs x = new BorderProofs();
        for (int item : items) {
            x.tell(item);
        }
        return x;
    }

    private static void dueReason(String row, int reason, int a, int b, int... items) {
        due("read(" + a + ", " + b + ") of " + row, told(items).read(a, b), reason);
    }

    private static void send() {
        BorderProofs x = MapTest.five();
        due("send(41, 43)", x.send(41, 43), 7);
        due("about(5)", x.about(5), 7);
        due("send(40, 40) instead", x.send(40, 40), 3);
        due("about(5)", x.about(5), 3);
        for (int[] of : ProofTest.NO_RANGES) {
            due("send(" + of[0] + ", " + of[1] + ")", x.send(of[0], of[1]), BAD);
        }
        due("refused ones leave the row", x.about(5), 3);
        for (int place = 0; place < 3; place++) {
            due("the row is the proof", x.alter(place, 0), x.item(40, 40, place));
        }
        due("send is no doing", x.about(4), 5);
        due("send(0, 99) of 40 keys", MapTest.full().send(0, 99), 81);
    }

    private static void tell() {
        BorderProofs x = new BorderProofs();
        int[] items = {0, 1, Integer.MAX_VALUE, -100, -10099};
        for (int i = 0; i < items.length; i++) {
            due("tell(" + items[i] + ")", x.tell(items[i]), i + 1);
        }
        for (int item : new int[] {-1, -99, -10100, Integer.MIN_VALUE}) {
            due("tell(" + item + ")", x.tell(item), BAD);
        }
        due("about(5)", x.about(5), 5);
        for (int many = 6; many <= 100; many++) {
            due("tell(0)", x.tell(0), many);
        }
        due("a 101st", x.tell(0), FULL);
        due("BAD is told before FULL", x.tell(-1), BAD);
        due("about(5)", x.about(5), 100);
        for (int i = 0; i < items.length; i++) {
            due("alter(" + i + ", 0)", x.alter(i, 0), items[i]);
        }
    }

    private static void alter() {
        BorderProofs x = told(5, 6, 7);
        due("alter(1, -100)", x.alter(1, -100), 6);
        due("alter(1, 0)", x.alter(1, 0), -100);
        due("alter(2, 9)", x.alter(2, 9), 7);
        due("alter(0, 9)", x.alter(0, 9), 5);
        for (int place : new int[] {3, -1, 100, Integer.MIN_VALUE, Integer.MAX_VALUE}) {
            due("alter(" + place + ", 0)", x.alter(place, 0), UNKNOWN);
            due("UNKNOWN is told before BAD", x.alter(place, -1), UNKNOWN);
        }
        for (int item : new int[] {-1, -99, -10100, Integer.MIN_VALUE}) {
            due("alter(0, " + item + ")", x.alter(0, item), BAD);
        }
        due("alter(0, -10099)", x.alter(0, -10099), 9);
        due("about(5)", x.about(5), 3);
        due("alter(0, 0) of none", new BorderProofs().alter(0, 0), UNKNOWN);
    }

    private static void cut() {
        BorderProofs x = told(5, 6, 7);
        for (int n : new int[] {4, -1, 100, Integer.MIN_VALUE, Integer.MAX_VALUE}) {
            due("cut(" + n + ")", x.cut(n), BAD);
        }
        due("cut(3)", x.cut(3), 3);
        due("cut(2)", x.cut(2), 3);
        due("about(5)", x.about(5), 2);
        due("alter(2, 0)", x.alter(2, 0), UNKNOWN);
        due("the first ones are left", x.alter(1, 6), 6);
        due("tell(8)", x.tell(8), 3);
        due("alter(2, 0)", x.alter(2, 0), 8);
        due("cut(0)", x.cut(0), 3);
        due("cut(0) of none", x.cut(0), 0);
    }

    private static void trust() {
        BorderProofs x = MapTest.five();
        int root = x.about(1);
        due("trust()", x.trust(), 1);
        due("about(6)", x.about(6), root);
        due("former(0)", x.former(0), 0);
        due("trust() of the same", x.trust(), 2);
        due("former(0)", x.former(0), root);
        x.put(0, 0);
        due("a doing does not change it", x.about(6), root);
        for (int many = 3; many < 12; many++) {
            due("trust()", x.trust(), Math.min(many, 8));
        }
        due("about(7)", x.about(7), 8);
        due("trust is no doing", x.about(4), 6);
    }

    private static void believe() {
        BorderProofs x = new BorderProofs();
        due("believe(most)", x.believe(Integer.MAX_VALUE), 1);
        due("about(6)", x.about(6), Integer.MAX_VALUE);
        due("believe(-1)", x.believe(-1), BAD);
        due("believe(NONE)", x.believe(NONE), BAD);
        due("believe(least)", x.believe(Integer.MIN_VALUE), BAD);
        due("about(6)", x.about(6), Integer.MAX_VALUE);
        due("about(7)", x.about(7), 1);
        due("believe(0)", x.believe(0), 2);
        due("about(6)", x.about(6), 0);
    }

    private static void readBad() {
        BorderProofs x = MapTest.five();
        for (int[] of : ProofTest.NO_RANGES) {
            due("read(" + of[0] + ", " + of[1] + ")", x.read(of[0], of[1]), BAD);
        }
    }

    private static void readShortAndLong() {
        dueReason("none", SHORT, 0, 0);
        dueReason("a node alone", SHORT, 0, 0, nodeItem(40, 1));
        dueReason("a node with its left", SHORT, 0, 0, nodeItem(40, 1), 0);
        dueReason("0 and more", LONG, 0, 0, 0, 0);
        dueReason("a node and more", LONG, 0, 0, nodeItem(40, 1), 0, 0, 5);
        dueReason("a node and a node", LONG, 0, 0, nodeItem(40, 1), 0, 0, nodeItem(30, 1));
        BorderProofs x = told(0, 0);
        x.believe(7);
        due("LONG is told before ROOT", x.read(0, 0), LONG);
    }

    private static void readKey() {
        dueReason("40 to the left of 40", KEY, 0, 0, nodeItem(40, 1), nodeItem(40, 1), 0, 0, 0);
        dueReason("42 to the left of 40", KEY, 0, 0, nodeItem(40, 1), nodeItem(42, 1), 0, 0, 0);
        dueReason("39 to the right of 40", KEY, 0, 0, nodeItem(40, 1), 0, nodeItem(39, 1), 0, 0);
        dueReason("41 below 30, left of 40", KEY, 0, 0, nodeItem(40, 1), nodeItem(30, 1), 0, nodeItem(41, 1), 0, 0, 0);
        dueReason("KEY is tested before RANK", KEY, 0, 0, nodeItem(42, 1), nodeItem(45, 1), 0, 0, 0);
        dueReason("a digest left of 0", KEY, 50, 50, nodeItem(0, 1), 5, 0);
        dueReason("a digest right of 99", KEY, 50, 50, nodeItem(99, 1), 0, 5);
        dueReason("a digest between 29 and 30", KEY, 50, 50, nodeItem(30, 1), nodeItem(29, 1), 0, 5, 0);
        dueReason("a digest between 40 and 41", KEY, 40, 41, nodeItem(40, 1), 0, nodeItem(41, 1), 5, 0);
        dueReason("a node left of 0", KEY, 50, 50, nodeItem(0, 1), nodeItem(0, 1), 0, 0, 0);
        dueReason("0 left of 0 is no fault", ROOT, 50, 50, nodeItem(0, 1), 0, 0);
    }

    private static void readRank() {
        dueReason("40 hangs on 30", RANK, 0, 0, nodeItem(30, 1), 0, nodeItem(40, 1), 0, 0);
        dueReason("30 hangs on 29", RANK, 0, 0, nodeItem(40, 1), nodeItem(29, 1), 0, nodeItem(30, 1), 0, 0, 0);
        dueReason("30 hangs on 40, 45 too", ROOT, 0, 0, nodeItem(40, 1), nodeItem(30, 1), 0, 0, nodeItem(45, 1), 0, 0);
        dueReason("42 hangs on 45", ROOT, 0, 0, nodeItem(45, 1), nodeItem(42, 1), 0, 0, 0);
    }

    private static void readHidden() {
        dueReason("all hidden", HIDDEN, 0, 0, 5);
        int[] left = {nodeItem(40, 1), 5, 0};
        dueReason("0 .. 39 hidden", HIDDEN, 39, 50, left);
        dueReason("0 .. 39 hidden", HIDDEN, 0, 0, left);
        dueReason("0 .. 39 hidden", HIDDEN, 0, 99, left);
        dueReason("0 .. 39 hidden", ROOT, 40, 50, left);
        int[] right = {nodeItem(40, 1), 0, 5};
        dueReason("41 .. 99 hidden", HIDDEN, 41, 41, right);
        dueReason("41 .. 99 hidden", HIDDEN, 99, 99, right);
        dueReason("41 .. 99 hidden", ROOT, 0, 40, right);
    }

    /** The reasons come as the items come, whatever their numbers are. */
    private static void readFirstReason() {
        dueReason("HIDDEN, then KEY", HIDDEN, 0, 0, nodeItem(40, 1), 5, nodeItem(30, 1), 0, 0);
        dueReason("KEY, then HIDDEN", KEY, 99, 99, nodeItem(40, 1), nodeItem(50, 1), 0, 0, 5);
        dueReason("RANK, then KEY", RANK, 0, 0, nodeItem(30, 1), 0, nodeItem(40, 1), nodeItem(41, 1), 0, 0, 0);
        dueReason("HIDDEN, then SHORT", HIDDEN, 0, 0, nodeItem(40, 1), 5);
        dueReason("HIDDEN, then LONG", HIDDEN, 0, 0, 5, 5);
        dueReason("RANK, then SHORT", RANK, 0, 0, nodeItem(30, 1), 0, nodeItem(40, 1));
    }

    private static void readDigest() {
        BorderProofs x = MapTest.five();
        int root = x.about(1);
        x.send(41, 43);
        due("neither trusted nor former", x.read(41, 43), ROOT);
        x.believe(root);
        due("trusted", x.read(41, 43), FINE);
        due("a range within", x.read(42, 42), FINE);
        due("all that is not hidden", x.read(40, 99), FINE);
        due("more than is shown", x.read(39, 43), HIDDEN);
        x.believe(5);
        due("former", x.read(41, 43), STALE);
        x.believe(root);
        due("trusted and former", x.read(41, 43), FINE);
        for (int digest = 1; digest <= 8; digest++) {
            x.believe(digest);
        }
        due("the eighth last", x.read(41, 43), STALE);
        x.believe(9);
        due("no longer former", x.read(41, 43), ROOT);
        x.believe(root);
        x.alter(2, nodeItem(45, 5));
        due("another value", x.read(41, 43), ROOT);
        x.alter(2, nodeItem(45, 4));
        x.alter(1, 8);
        due("another digest", x.read(41, 43), ROOT);
        due("read changes no row", x.about(5), 7);
        due("0 is what is trusted at first", told(0).read(0, 99), FINE);
    }

    /** The longest chain of nodes that keys and ranks allow, told from both sides. */
    private static void readDeep() {
        BorderProofs x = new BorderProofs();
        int many = 0;
        int last = -1;
        for (int key = 0; key < 100; key++) {
            if (last < 0 || x.rank(key) < x.rank(last)) {
                many = x.tell(nodeItem(key, 0));
                x.tell(0);
                many++;
                last = key;
            }
        }
        due("all nodes, a right side is wanted", x.read(0, 99), SHORT);
        due("tell(0)", x.tell(0), many + 1);
        due("a chain", x.read(0, 99), ROOT);
        for (int i = many + 1; i < 100; i++) {
            x.tell(nodeItem(50, 50));
        }
        due("and more", x.read(0, 99), LONG);
    }

    private static void learnt() {
        BorderProofs x = MapTest.five();
        x.trust();
        x.send(29, 41);
        int[][] due = {
            // a, b, keys, values, less, more, nodes
            {30, 41, 2, 3, 29, 42, 5},
            {31, 39, 0, 0, 30, 40, 5},
            {40, 40, 1, 1, 30, 42, 5},
            {0, 29, 1, 3, NONE, 30, 5},
            {45, 99, 1, 4, 42, NONE, 5},
            {0, 99, 5, 15, NONE, NONE, 5},
        };
        for (int[] of : due) {
            for (int what = 0; what < 5; what++) {
                due("learnt(" + of[0] + ", " + of[1] + ", " + what + ")", x.learnt(of[0], of[1], what), of[2 + what]);
            }
        }
        x.send(45, 45);
        due("a neighbour that is shown", x.learnt(45, 45, 2), 40);
        due("none is", x.learnt(45, 45, 3), NONE);
        due("nodes", x.learnt(45, 45, 4), 2);
        for (int[] of : ProofTest.NO_RANGES) {
            due("learnt(" + of[0] + ", " + of[1] + ", 0)", x.learnt(of[0], of[1], 0), BAD);
        }
        due("learnt(45, 45, 5)", x.learnt(45, 45, 5), BAD);
        due("learnt(45, 45, -1)", x.learnt(45, 45, -1), BAD);
        due("hidden", x.learnt(44, 45, 0), LATE);
        due("BAD is told before LATE", x.learnt(44, 45, 5), BAD);
        x.believe(5);
        due("stale", x.learnt(45, 45, 0), LATE);
    }

    private static void learntOfTheLeast() {
        BorderProofs x = new BorderProofs();
        x.put(0, 5);
        x.put(99, 6);
        x.trust();
        x.send(0, 99);
        due("keys", x.learnt(0, 0, 0), 1);
        due("values", x.learnt(0, 0, 1), 5);
        due("less", x.learnt(1, 99, 2), 0);
        due("more", x.learnt(0, 98, 3), 99);
        due("found(0, 0, 0)", x.found(0, 0, 0), 5);
        due("found(99, 99, 0)", x.found(99, 99, 0), 9906);
    }

    private static void found() {
        BorderProofs x = MapTest.five();
        x.trust();
        x.send(0, 99);
        int[] due = {2903, 3002, 4001, 4205, 4504, NONE};
        for (int place = 0; place < due.length; place++) {
            due("found(0, 99, " + place + ")", x.found(0, 99, place), due[place]);
        }
        due("found(30, 41, 0)", x.found(30, 41, 0), 3002);
        due("found(30, 41, 1)", x.found(30, 41, 1), 4001);
        due("found(30, 41, 2)", x.found(30, 41, 2), NONE);
        due("found(0, 99, -1)", x.found(0, 99, -1), NONE);
        due("found(0, 99, least)", x.found(0, 99, Integer.MIN_VALUE), NONE);
        due("found(0, 99, most)", x.found(0, 99, Integer.MAX_VALUE), NONE);
        for (int[] of : ProofTest.NO_RANGES) {
            due("found(" + of[0] + ", " + of[1] + ", 0)", x.found(of[0], of[1], 0), BAD);
        }
        x.tell(0);
        due("long", x.found(0, 99, 0), LATE);
        due("BAD is told before LATE", x.found(1, 0, 0), BAD);
    }

    private static void step() {
        BorderProofs x = MapTest.five();
        x.trust();
        int root = x.about(1);
        int left = x.node(30, 5);
        int right = x.node(45, 5);
        x.send(41, 43);
        due("another value", x.step(42, 9),
                MapTest.digest(40, 1, left, MapTest.digest(45, 4, MapTest.digest(42, 9, 0, 0), 0)));
        due("the same value", x.step(42, 5), root);
        due("none any more", x.step(42, NONE), MapTest.digest(40, 1, left, MapTest.digest(45, 4, 0, 0)));
        // 41 (2355) comes above 42 (195), below 45
        x.send(40, 42);
        due("a new one", x.step(41, 0), MapTest.digest(40, 1, left,
                MapTest.digest(45, 4, MapTest.digest(41, 0, 0, MapTest.digest(42, 5, 0, 0)), 0)));
        // 40 is gone: 30 (9906) is above 45 (9621)
        x.send(39, 41);
        due("the root is gone", x.step(40, NONE), MapTest.digest(30, 2, x.node(29, 5), right));
        due("the reader trusts what it did", x.about(6), root);
        due("none is former by it", x.about(7), 1);
        due("the map is as it was", x.about(1), root);
    }

    private static void stepRefused() {
        BorderProofs x = MapTest.five();
        x.trust();
        x.send(40, 42);
        for (int key : new int[] {-1, 100, Integer.MIN_VALUE, Integer.MAX_VALUE}) {
            due("step(" + key + ", 0)", x.step(key, 0), BAD);
            due("follow(" + key + ", NONE)", x.follow(key, NONE), BAD);
        }
        for (int value : new int[] {-1, -8, -10, 100, Integer.MIN_VALUE, Integer.MAX_VALUE}) {
            due("step(41, " + value + ")", x.step(41, value), BAD);
            due("follow(41, " + value + ")", x.follow(41, value), BAD);
        }
        due("it had none", x.step(41, NONE), UNKNOWN);
        due("follow likewise", x.follow(41, NONE), UNKNOWN);
        due("39 is hidden", x.step(40, 3), LATE);
        due("follow likewise", x.follow(40, 3), LATE);
        due("BAD is told before LATE", x.step(40, 100), BAD);
        x.send(39, 40);
        due("41 is hidden", x.step(40, 3), LATE);
        x.send(41, 41);
        due("42 lies beside, and is shown", x.step(41, 0) > 0 ? 1 : 0, 1);
        x.believe(1);
        due("LATE is told before UNKNOWN", x.step(41, NONE), LATE);
        due("no step was followed", x.about(7), 2);
        due("what it trusts", x.about(6), 1);
    }

    private static void stepAtTheEnds() {
        BorderProofs x = new BorderProofs();
        x.tell(0);
        due("step(0, 1)", x.step(0, 1), MapTest.digest(0, 1, 0, 0));
        due("step(99, 99)", x.step(99, 99), MapTest.digest(99, 99, 0, 0));
        due("step(0, NONE)", x.step(0, NONE), UNKNOWN);
        x.put(0, 1);
        x.put(99, 2);
        x.trust();
        // 99 (8453) is above 0 (7383)
        due("send(0, 1)", x.send(0, 1), 5);
        due("step(0, NONE)", x.step(0, NONE), MapTest.digest(99, 2, 0, 0));
        due("send(98, 99)", x.send(98, 99), 5);
        due("step(99, NONE)", x.step(99, NONE), MapTest.digest(0, 1, 0, 0));
        x.remove(99);
        x.trust();
        x.send(0, 1);
        due("the last one is gone", x.step(0, NONE), 0);
        due("follow(0, NONE)", x.follow(0, NONE), 3);
        due("about(6)", x.about(6), 0);
    }

    /** Trees that are not shown hang between the same nodes, whatever is in them. */
    private static void stepWithMadeUpDigests() {
        // 30 with 7 hidden to its left; to its right 59 with 0 and 8 hidden to its right
        BorderProofs x = told(nodeItem(30, 1), 7, nodeItem(59, 2), 0, 8);
        x.believe(MapTest.digest(30, 1, 7, MapTest.digest(59, 2, 0, 8)));
        due("read(31, 59)", x.read(31, 59), FINE);
        due("40 comes above 30 and 59", x.step(40, 3),
                MapTest.digest(40, 3, MapTest.digest(30, 1, 7, 0), MapTest.digest(59, 2, 0, 8)));
        due("45 comes between 30 and 59", x.step(45, 3),
                MapTest.digest(30, 1, 7, MapTest.digest(45, 3, 0, MapTest.digest(59, 2, 0, 8))));
        due("42 comes below", x.step(42, 3),
                MapTest.digest(30, 1, 7, MapTest.digest(59, 2, MapTest.digest(42, 3, 0, 0), 8)));
        due("30 has a hidden tree beside it", x.step(30, NONE), LATE);
        x.cut(0);
        // 40 above 30 (above 29, with 7 hidden to its left) and 45 (8 hidden to its right)
        for (int item : new int[] {nodeItem(40, 0), nodeItem(30, 1), nodeItem(29, 2), 7, 0, 0, nodeItem(45, 3), 0, 8}) {
            x.tell(item);
        }
        x.believe(MapTest.digest(40, 0, MapTest.digest(30, 1, MapTest.digest(29, 2, 7, 0), 0), MapTest.digest(45, 3, 0, 8)));
        due("40 is gone", x.step(40, NONE),
                MapTest.digest(30, 1, MapTest.digest(29, 2, 7, 0), MapTest.digest(45, 3, 0, 8)));
    }

    private static void follow() {
        BorderProofs x = MapTest.five();
        x.trust();
        int root = x.about(1);
        x.send(41, 43);
        int after = x.step(42, 9);
        due("follow(42, 9)", x.follow(42, 9), 2);
        due("about(6)", x.about(6), after);
        due("former(0)", x.former(0), root);
        due("the row is stale then", x.read(41, 43), STALE);
        due("so a second step is late", x.follow(42, 8), LATE);
        due("the map is as it was", x.about(1), root);
        x.put(42, 9);
        due("the map comes to it", x.about(1), after);
    }

    /** From the old root to the new one by a proof alone, for many steps. */
    private static void followManySteps() {
        BorderProofs x = new BorderProofs();
        x.scatter(9, 5);
        x.trust();
        for (int i = 0; i < 80; i++) {
            int key = i * 37 % 31;
            x.send(Math.max(0, key - 1), Math.min(99, key + 1));
            boolean held = x.get(key) != NONE;
            int value = held && i % 3 != 0 ? NONE : i;
            due("follow(" + key + ", " + value + ")", x.follow(key, value), Math.min(8, i + 2));
            if (value == NONE) {
                x.remove(key);
            } else {
                x.put(key, value);
            }
            due("ROOT is what is trusted", x.about(6), x.about(1));
        }
    }

    private static void former() {
        BorderProofs x = new BorderProofs();
        due("former(0) of none", x.former(0), UNKNOWN);
        for (int digest = 1; digest <= 10; digest++) {
            due("believe(" + digest + ")", x.believe(digest), Math.min(8, digest));
        }
        for (int place = 0; place < 8; place++) {
            due("former(" + place + ")", x.former(place), 9 - place);
        }
        for (int place : new int[] {8, -1, 100, Integer.MIN_VALUE, Integer.MAX_VALUE}) {
            due("former(" + place + ")", x.former(place), UNKNOWN);
        }
    }
}
