/** Each boundary case that the document names for ranges, borders, items and proofs (promises 10 to 12): a test each. */
public final class EdgesProofTest {
    private static final Check CHECK = new Check("EdgesProofTest");
    private static final int UNKNOWN = -1, BAD = -2, NONE = -9;
    /** The first on each side of "0 <= a <= b <= 99" that is refused, and the last. */
    static final int[][] NO_RANGES = {
        {-1, 0}, {-1, 50}, {-1, 99}, {-1, -1}, {0, 100}, {50, 100}, {99, 100}, {100, 100}, {100, 101}, {-1, 100},
        {1, 0}, {51, 50}, {99, 98}, {99, 0}, {0, -1}, {100, 99}, {100, 0},
        {Integer.MIN_VALUE, 0}, {0, Integer.MAX_VALUE}, {0, Integer.MIN_VALUE}, {Integer.MAX_VALUE, 99},
        {Integer.MIN_VALUE, Integer.MAX_VALUE}, {Integer.MIN_VALUE, Integer.MIN_VALUE},
        {Integer.MAX_VALUE, Integer.MAX_VALUE}, {Integer.MAX_VALUE, Integer.MIN_VALUE}};
    /** The least, the greatest and the widest that are taken. */
    static final int[][] RANGES = {{0, 0}, {0, 1}, {0, 99}, {98, 99}, {99, 99}, {50, 50}, {1, 98}};

    public static void main(String[] args) {
        rangesAreTaken();
        rangesAreRefused();
        proofTakesZeroToTwo();
        proofOfNoTree();
        proofOfOneKey();
        proofOfFortyKeys();
        nodeOrDigestByItsBorders();
        oneNumberInBorders();
        shownThoughNoKeyIsInTheRange();
        leastAndGreatestDigestItem();
        leastAndGreatestNodeItem();
        placesOfItems();
        lengthsTakesZeroAndOne();
        lengthsOfNoTree();
        lengthsOfOneKey();
        lengthsOfAnyNumber();
        lengthsAtTheEnds();
        lengthsOfFortyKeys();
        CHECK.finish();
    }

    private static void due(String call, long got, long want) {
        CHECK.due(call, got, want);
    }

    private static String told(String call, int[] range, int last) {
        return call + "(" + range[0] + ", " + range[1] + ", " + last + ")";
    }

    private static void dueItems(BorderProofs x, int a, int b, int... items) {
        String range = a + ", " + b;
        due("proof(" + range + ", 0)", x.proof(a, b, 0), items.length);
        int digests = 0;
        int nodes = 0;
        for (int place = 0; place < items.length; place++) {
            due("item(" + range + ", " + place + ")", x.item(a, b, place), items[place]);
            digests += items[place] > 0 ? 1 : 0;
            nodes += items[place] < 0 ? 1 : 0;
        }
        due("proof(" + range + ", 1)", x.proof(a, b, 1), digests);
        due("proof(" + range + ", 2)", x.proof(a, b, 2), nodes);
        due("item(" + range + ", " + items.length + ")", x.item(a, b, items.length), UNKNOWN);
    }

    // ---- "A RANGE is a .. b (0 <= a <= b <= 99)."

    private static void rangesAreTaken() {
        BorderProofs x = Words.with(40);
        for (int[] range : RANGES) {
            due(told("proof", range, 2), x.proof(range[0], range[1], 2), 1);
            due(told("item", range, 0), x.item(range[0], range[1], 0), Words.nodeItem(40, 1));
        }
    }

    private static void rangesAreRefused() {
        BorderProofs x = Words.with(40);
        for (int[] range : NO_RANGES) {
            for (int what = 0; what < 3; what++) {
                due(told("proof", range, what), x.proof(range[0], range[1], what), BAD);
            }
            due(told("item", range, 0), x.item(range[0], range[1], 0), BAD);
        }
    }

    // ---- promise 10

    private static void proofTakesZeroToTwo() {
        BorderProofs x = Words.with(40);
        due("proof(0, 99, 0)", x.proof(0, 99, 0), 3);
        due("proof(0, 99, 2)", x.proof(0, 99, 2), 1);
        for (int what : new int[] {-1, 3, Integer.MIN_VALUE, Integer.MAX_VALUE}) {
            due("proof(0, 99, " + what + ")", x.proof(0, 99, what), BAD);
            due("proof(1, 0, " + what + ")", x.proof(1, 0, what), BAD);
        }
    }

    /** "0, if it is none". */
    private static void proofOfNoTree() {
        for (int[] range : RANGES) {
            dueItems(new BorderProofs(), range[0], range[1], 0);
        }
    }

    private static void proofOfOneKey() {
        for (int key : new int[] {0, 99}) {
            for (int[] range : RANGES) {
                dueItems(Words.with(key), range[0], range[1], Words.nodeItem(key, 1), 0, 0);
            }
        }
    }

    private static void proofOfFortyKeys() {
        for (int first : new int[] {0, 60}) {
            BorderProofs x = Words.forty(first);
            int[] items = Words.itemsOfAll(first, first + 39, 1).stream().mapToInt(Integer::intValue).toArray();
            due("81 items", items.length, 81);
            dueItems(x, 0, 99, items);
            dueItems(x, first, first + 39, items);
        }
    }

    /** 40 above 30 (0 .. 39) and 45 (41 .. 99), 45 above 42 (41 .. 44). */
    private static void nodeOrDigestByItsBorders() {
        BorderProofs x = Words.with(30, 40, 42, 45);
        int i30 = Words.nodeItem(30, 1), i40 = Words.nodeItem(40, 1), i42 = Words.nodeItem(42, 1), i45 = Words.nodeItem(45, 1);
        int d30 = Words.digest(30, 1, 0, 0);
        int d42 = Words.digest(42, 1, 0, 0);
        int d45 = Words.digest(45, 1, d42, 0);
        dueItems(x, 0, 0, i40, i30, 0, 0, d45);
        dueItems(x, 39, 39, i40, i30, 0, 0, d45);
        dueItems(x, 40, 40, i40, d30, d45);
        dueItems(x, 39, 40, i40, i30, 0, 0, d45);
        dueItems(x, 41, 41, i40, d30, i45, i42, 0, 0, 0);
        dueItems(x, 40, 41, i40, d30, i45, i42, 0, 0, 0);
        dueItems(x, 44, 44, i40, d30, i45, i42, 0, 0, 0);
        dueItems(x, 44, 99, i40, d30, i45, i42, 0, 0, 0);
        dueItems(x, 45, 45, i40, d30, i45, d42, 0);
        dueItems(x, 45, 99, i40, d30, i45, d42, 0);
        dueItems(x, 99, 99, i40, d30, i45, d42, 0);
        dueItems(x, 39, 41, i40, i30, 0, 0, i45, i42, 0, 0, 0);
    }

    /** 26 above 24 above 25, whose borders are 25 .. 25. */
    private static void oneNumberInBorders() {
        BorderProofs x = Words.with(24, 25, 26);
        int i24 = Words.nodeItem(24, 1), i25 = Words.nodeItem(25, 1), i26 = Words.nodeItem(26, 1);
        int d25 = Words.digest(25, 1, 0, 0);
        dueItems(x, 24, 24, i26, i24, 0, d25, 0);
        dueItems(x, 25, 25, i26, i24, 0, i25, 0, 0, 0);
        dueItems(x, 26, 26, i26, Words.digest(24, 1, 0, d25), 0);
    }

    private static void shownThoughNoKeyIsInTheRange() {
        BorderProofs x = Words.with(40, 99);
        dueItems(x, 41, 41, Words.nodeItem(40, 1), 0, Words.nodeItem(99, 1), 0, 0);
        BorderProofs y = Words.with(2, 0);
        dueItems(y, 1, 1, Words.nodeItem(2, 1), Words.nodeItem(0, 1), 0, 0, 0);
        dueItems(y, 2, 99, Words.nodeItem(2, 1), Words.digest(0, 1, 0, 0), 0);
    }

    /** "a DIGEST, 1 or more": a tree that has the least one, or the greatest, is hidden behind it. */
    private static void leastAndGreatestDigestItem() {
        int[][] values = {Words.LEAST_DIGEST, Words.GREATEST_DIGEST};
        int[] digests = {1, Integer.MAX_VALUE};
        for (int i = 0; i < values.length; i++) {
            BorderProofs x = new BorderProofs();
            Words.putChain(x, values[i]);
            dueItems(x, 0, 99, Words.chainItems(values[i]));
            x.put(40, 1);
            dueItems(x, 40, 40, Words.nodeItem(40, 1), digests[i], 0);
            x.trust();
            x.send(40, 99);
            due("it is FINE", x.read(40, 99), 0);
            due("it is hidden", x.read(39, 40), 5);
        }
    }

    // ---- promise 11

    /** "-100 less 100 times KEY and VALUE". */
    private static void leastAndGreatestNodeItem() {
        int[][] due = {{0, 0, -100}, {0, 99, -199}, {1, 0, -200}, {99, 0, -10000}, {99, 99, -10099}};
        for (int[] of : due) {
            BorderProofs x = new BorderProofs();
            x.put(of[0], of[1]);
            due("the item of " + of[0] + " with " + of[1], x.item(0, 99, 0), of[2]);
        }
    }

    /** "UNKNOWN: place" (from 0). */
    private static void placesOfItems() {
        for (int place : new int[] {-1, 1, Integer.MIN_VALUE, Integer.MAX_VALUE}) {
            due("no keys: item(0, 99, " + place + ")", new BorderProofs().item(0, 99, place), UNKNOWN);
        }
        BorderProofs x = Words.forty(0);
        // 26 is above all of 0 .. 39
        due("item(0, 99, 0)", x.item(0, 99, 0), Words.nodeItem(26, 1));
        due("item(0, 99, 80)", x.item(0, 99, 80), 0);
        for (int place : new int[] {-1, 81, 99, 100, 101, Integer.MIN_VALUE, Integer.MAX_VALUE}) {
            due("40 keys: item(0, 99, " + place + ")", x.item(0, 99, place), UNKNOWN);
        }
    }

    // ---- promise 12

    private static void lengthsTakesZeroAndOne() {
        for (int what : new int[] {-1, 2, Integer.MIN_VALUE, Integer.MAX_VALUE}) {
            for (int n : new int[] {1, 2, -1, Integer.MAX_VALUE}) {
                due("lengths(" + n + ", " + what + ")", new BorderProofs().lengths(n, what), BAD);
            }
        }
    }

    private static void lengthsOfNoTree() {
        due("lengths(1, 0)", new BorderProofs().lengths(1, 0), 100);
        due("lengths(1, 1)", new BorderProofs().lengths(1, 1), 0);
        due("lengths(3, 0)", new BorderProofs().lengths(3, 0), 0);
        due("lengths(3, 1)", new BorderProofs().lengths(3, 1), NONE);
    }

    private static void lengthsOfOneKey() {
        due("lengths(3, 0)", Words.with(50).lengths(3, 0), 100);
        due("lengths(3, 1)", Words.with(50).lengths(3, 1), 0);
        due("lengths(1, 0)", Words.with(50).lengths(1, 0), 0);
        due("lengths(1, 1)", Words.with(50).lengths(1, 1), NONE);
    }

    /** No n is refused: of such as no proof has, there are none. */
    private static void lengthsOfAnyNumber() {
        BorderProofs x = Words.with(40, 50);
        for (int n : new int[] {0, -1, 1, 2, 4, 6, 7, 100, 101, Integer.MIN_VALUE, Integer.MAX_VALUE}) {
            due("lengths(" + n + ", 0)", x.lengths(n, 0), 0);
            due("lengths(" + n + ", 1)", x.lengths(n, 1), NONE);
        }
    }

    /** 98 above 99: only 99 has both in its proof; 2 above 0: only 0 and 1 have. */
    private static void lengthsAtTheEnds() {
        BorderProofs x = Words.with(98, 99);
        due("lengths(5, 0)", x.lengths(5, 0), 1);
        due("lengths(5, 1)", x.lengths(5, 1), 99);
        due("lengths(3, 0)", x.lengths(3, 0), 99);
        due("lengths(3, 1)", x.lengths(3, 1), 0);
        BorderProofs y = Words.with(2, 0);
        due("lengths(5, 0)", y.lengths(5, 0), 2);
        due("lengths(5, 1)", y.lengths(5, 1), 0);
        due("lengths(3, 0)", y.lengths(3, 0), 98);
        due("lengths(3, 1)", y.lengths(3, 1), 2);
    }

    private static void lengthsOfFortyKeys() {
        BorderProofs x = Words.forty(60);
        int[] many = new int[102];
        int[] least = new int[102];
        for (int k = 99; k >= 0; k--) {
            int n = x.proof(k, k, 0);
            many[n]++;
            least[n] = k;
        }
        for (int n = 0; n <= 101; n++) {
            due("lengths(" + n + ", 0)", x.lengths(n, 0), many[n]);
            due("lengths(" + n + ", 1)", x.lengths(n, 1), many[n] == 0 ? NONE : least[n]);
        }
    }
}
